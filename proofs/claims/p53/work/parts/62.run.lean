/-! p53: the law's run: each turn does one thing, takes it back, does it again; and a proof holds -/
def LCl (sn : Nat) (sx : Nat → Int32) (P : Nat → LK) : Prop := ∀ pc L S N, lW VCl (fun S _ => S = [.int 1]) sn sx P (fndC lawR pc) L S N → P pc L S N
theorem lcmp_self (x : Int64) : lg_cmp x x = 0 := by
  unfold lg_cmp
  simp
theorem svA_cut (A : AS) : ∃ l, svA A = l ++ [A.1] := by
  unfold svA
  split
  · exact ⟨_, rfl⟩
  · exact ⟨_, rfl⟩
section LR
variable {sn : Nat} {sx : Nat → Int32} {P : Nat → LK} {M : Mem} {A : AS} {j : Nat}
/-- the loop's head, of the next turn -/
def Nxt (P : Nat → LK) (j : Nat) : Prop := ∀ (l3 l4 l5 l6 l7 l8 l9 l10 l11 : Option Value) (M : Mem) (A : AS), CR M A → okM A.1 → P 89 [some (.ref 99), some (.ref 0), some (.int (nI (j + 1))), l3, l4, l5, l6, l7, l8, l9, l10, l11] [] M
theorem r_286 (hP : LCl sn sx P) (hn : Nxt P j) (l3 l4 l5 l6 l7 l8 l9 l10 l11 : Option Value) (M : Mem) (A : AS) (hM : CR M A) (om : okM A.1) : P 286 [some (.ref 99), some (.ref 0), some (.int (nI j)), l3, l4, l5, l6, l7, l8, l9, l10, l11] [] M := by
  refine hP _ _ _ _ ?_; (conv => whnf)
  have e : nI j + cst 1 = nI (j + 1) := nI_1 j
  show P 89 [some (.ref 99), some (.ref 0), some (.int (nI j + cst 1)), l3, l4, l5, l6, l7, l8, l9, l10, l11] [] M
  rw [e]
  exact hn _ _ _ _ _ _ _ _ _ M A hM om
theorem r_252 (hP : LCl sn sx P) (hn : Nxt P j) (x : Int32) (l3 l5 l6 l7 l8 l9 l10 l11 : Option Value) (M : Mem) (A : AS) (hM : CR M A) (om : okM A.1) : P 252 [some (.ref 99), some (.ref 0), some (.int (nI j)), l3, some (.int x), l5, l6, l7, l8, l9, l10, l11] [] M := by
  obtain ⟨now, snap, rows, r, buf, rd, D, H, R, rfl, hr⟩ := hM; have hM := CR_of hr
  refine hP _ _ _ _ ?_; (conv => whnf)
  refine ⟨by decide, ?_⟩; (conv => whnf)
  refine ⟨fun _ => r_286 hP hn _ _ _ _ _ _ _ _ _ _ A hM om, fun _ => ?_⟩; (conv => whnf)
  refine ⟨Nat.le_of_ble_eq_true rfl, rfl, ?_⟩; refine ⟨_, _, Cl_s (s_low (d := 19) (n := 3) (v := sh x 3) (by decide) (by decide)), ?_⟩; (conv => whnf)
  refine ⟨Nat.le_of_ble_eq_true rfl, rfl, ?_⟩; refine ⟨_, _, Cl_s (s_low (d := 19) (n := 27) (v := sh x 5) (by decide) (by decide)), ?_⟩; (conv => whnf)
  refine ⟨Nat.le_of_ble_eq_true rfl, rfl, ?_⟩; obtain ⟨_, hc, now, snap, rows, r, buf, rd, D, H, R, rfl, hr⟩ := s_holds (d := 4) hM om (lw_lt (sh x 3) (show 0 < 3 by decide)) (lw_lt (sh x 5) (show 0 < 27 by decide)); have hM := CR_of hr; refine ⟨_, _, hc, ?_⟩; (conv => whnf)
  refine b1 1 rfl (by omega) (fun _ => ?_) (fun (q : ¬ ¬ 1 = 0) => by omega)
  exact r_286 hP hn _ _ _ _ _ _ _ _ _ _ A hM om
theorem r_189n (hP : LCl sn sx P) (hn : Nxt P j) (x : Int32) (l3 l5 l6 l7 l9 l10 l11 : Option Value) (M : Mem) (A : AS) (hM : CR M A) (om : okM A.1) : P 189 [some (.ref 99), some (.ref 0), some (.int (nI j)), l3, some (.int x), l5, l6, l7, some (.int (nI 0)), l9, l10, l11] [] M := by
  refine hP _ _ _ _ ?_; (conv => whnf)
  refine b1 0 rfl (by omega) (fun _ => ?_) (fun (q : ¬ 0 = 0) => absurd rfl q)
  exact r_252 hP hn x _ _ _ _ _ _ _ _ M A hM om
theorem r_189d (hP : LCl sn sx P) (hn : Nxt P j) (v x : Int32) (l6 l7 l10 l11 : Option Value) (M : Mem) (A : AS) (a2 : SA) (hM : CR M (chg A a2)) (oA : okM A.1) (om : okM a2)
    (hact : ∀ (M : Mem) (B : AS), CR M B → B.1 = A.1 → acR 4 v x M (rV (nI 1)) (chg B a2)) : P 189 [some (.ref 99), some (.ref 0), some (.int (nI j)), some (.int v), some (.int x), some (.long (tdF A.1)), l6, l7, some (.int (nI 1)), some (.long (tdF a2)), l10, l11] [] M := by
  have h252 : ∀ (l3 l5 l6 l7 l8 l9 l10 l11 : Option Value) (M : Mem) (B : AS), CR M (chg B a2) → P 252 [some (.ref 99), some (.ref 0), some (.int (nI j)), l3, some (.int x), l5, l6, l7, l8, l9, l10, l11] [] M := fun l3 l5 l6 l7 l8 l9 l10 l11 M B h => r_252 hP hn x _ _ _ _ _ _ _ _ M _ h om
  obtain ⟨l, hl⟩ := svA_cut A
  have h5 := CR_sv hM
  have hll : (svA A).length = l.length + 1 := by rw [hl, List.length_append]; rfl
  have h5 : (svA A).length ≤ 5 := h5
  obtain ⟨now, snap, rows, r, buf, rd, D, H, R, rfl, hr⟩ := hM; have hM := CR_of hr
  refine hP _ _ _ _ ?_; (conv => whnf)
  refine b1 1 rfl (by omega) (fun (q : 1 = 0) => by omega) (fun _ => ?_); (conv => whnf)
  refine ⟨fun _ => h252 _ _ _ _ _ _ _ _ _ A hM, fun _ => ?_⟩; (conv => whnf)
  refine ⟨Nat.le_of_ble_eq_true rfl, rfl, ?_⟩; obtain ⟨_, hc, now, snap, rows, r, buf, rd, D, H, R, rfl, hr⟩ := t_saved (d := 5) hM; have hM := CR_of hr; refine ⟨_, _, hc, ?_⟩; (conv => whnf)
  refine ⟨Nat.le_of_ble_eq_true rfl, rfl, ?_⟩; obtain ⟨_, hc, now, snap, rows, r, buf, rd, D, H, R, rfl, hr⟩ := t_undo (d := 5) hM hl; have hM := CR_of hr; refine ⟨_, _, hc, ?_⟩; (conv => whnf)
  have e1 : nI (svA A).length - cst 1 = nI l.length := by rw [hll]; exact pk_sub (Nat.le_add_left 1 _)
  refine b2 l.length l.length rfl e1 (by omega) (by omega) (fun (q : ¬ l.length = l.length) => absurd rfl q) (fun _ => ?_); (conv => whnf)
  refine ⟨Nat.le_of_ble_eq_true rfl, rfl, ?_⟩; obtain ⟨_, hc, now, snap, rows, r, buf, rd, D, H, R, rfl, hr⟩ := s_told (d := 4) hM; have hM := CR_of hr; refine ⟨_, _, hc, ?_⟩; (conv => whnf)
  refine b1 0 (lcmp_self _) (by omega) (fun (q : ¬ 0 = 0) => absurd rfl q) (fun _ => ?_); (conv => whnf)
  refine ⟨Nat.le_of_ble_eq_true rfl, rfl, ?_⟩; obtain ⟨_, hc, now, snap, rows, r, buf, rd, D, H, R, rfl, hr⟩ := hact _ _ hM rfl; have hM := CR_of hr; refine ⟨_, _, hc, ?_⟩; (conv => whnf)
  refine b1 1 rfl (by omega) (fun (q : 1 = 0) => by omega) (fun _ => ?_); (conv => whnf)
  refine ⟨Nat.le_of_ble_eq_true rfl, rfl, ?_⟩; obtain ⟨_, hc, now, snap, rows, r, buf, rd, D, H, R, rfl, hr⟩ := s_told (d := 4) hM; have hM := CR_of hr; refine ⟨_, _, hc, ?_⟩; (conv => whnf)
  refine b1 0 (lcmp_self _) (by omega) (fun _ => ?_) (fun (q : ¬ 0 = 0) => absurd rfl q)
  exact h252 _ _ _ _ _ _ _ _ _ _ hM
theorem r_body (hP : LCl sn sx P) (hn : Nxt P j) (hj : j < 30) (l3 l4 l5 l6 l7 l8 l9 l10 l11 : Option Value) (M : Mem) (A : AS) (hM : CR M A) (om : okM A.1) : lW VCl (fun S _ => S = [.int 1]) sn sx P (fndC lawR 89) [some (.ref 99), some (.ref 0), some (.int (nI j)), l3, l4, l5, l6, l7, l8, l9, l10, l11] [] M := by
  have e0 : cst 2 * nI j = nI (2 * j) := pk_mul 2 j
  have k0 : (0 : Int32) ≤ cst 2 * nI j := by rw [e0]; exact nI_pos' (by omega)
  have k1 : (0 : Int32) ≤ cst 2 * nI j + cst 1 := by rw [e0, show nI (2 * j) + cst 1 = nI (2 * j + 1) from nI_1 _]; exact nI_pos' (by omega)
  obtain ⟨v, hv⟩ : ∃ v, v = cellV sn sx (cst 2 * nI j) := ⟨_, rfl⟩
  obtain ⟨x, hx⟩ : ∃ x, x = cellV sn sx (cst 2 * nI j + cst 1) := ⟨_, rfl⟩
  obtain ⟨now, snap, rows, r, buf, rd, D, H, R, rfl, hr⟩ := hM; have hM := CR_of hr
  conv => whnf
  refine b2 j 30 rfl rfl (by omega) (by omega) (fun (q : 30 ≤ j) => by omega) (fun _ => ?_); (conv => whnf)
  refine ⟨rfl, k0, Nat.le_of_ble_eq_true rfl, ?_⟩; rw [← hv]; (conv => whnf)
  refine ⟨rfl, k1, Nat.le_of_ble_eq_true rfl, ?_⟩; rw [← hx]; (conv => whnf)
  refine ⟨Nat.le_of_ble_eq_true rfl, rfl, ?_⟩; obtain ⟨_, hc, now, snap, rows, r, buf, rd, D, H, R, rfl, hr⟩ := s_told (d := 4) hM; have hM := CR_of hr; refine ⟨_, _, hc, ?_⟩; (conv => whnf)
  refine ⟨Nat.le_of_ble_eq_true rfl, rfl, ?_⟩; obtain ⟨_, hc, now, snap, rows, r, buf, rd, D, H, R, rfl, hr⟩ := t_saved (d := 5) hM; have hM := CR_of hr; refine ⟨_, _, hc, ?_⟩; (conv => whnf)
  have h5 := CR_sv hM
  have oa := CR_okA hM
  rcases s_act (d := 4) oa om v x with hact | ⟨a2, om2, hact⟩
  · refine ⟨Nat.le_of_ble_eq_true rfl, rfl, ?_⟩; obtain ⟨_, hc, now, snap, rows, r, buf, rd, D, H, R, rfl, hr⟩ := hact _ _ hM rfl; have hM := CR_of hr; refine ⟨_, _, hc, ?_⟩; (conv => whnf)
    refine ⟨Nat.le_of_ble_eq_true rfl, rfl, ?_⟩; obtain ⟨_, hc, now, snap, rows, r, buf, rd, D, H, R, rfl, hr⟩ := s_told (d := 4) hM; have hM := CR_of hr; refine ⟨_, _, hc, ?_⟩; (conv => whnf)
    refine b1 0 rfl (by omega) (fun (q : ¬ 0 = 0) => absurd rfl q) (fun _ => ?_); (conv => whnf)
    refine b1 0 (lcmp_self _) (by omega) (fun (q : ¬ 0 = 0) => absurd rfl q) (fun _ => ?_); (conv => whnf)
    refine ⟨Nat.le_of_ble_eq_true rfl, rfl, ?_⟩; obtain ⟨_, hc, now, snap, rows, r, buf, rd, D, H, R, rfl, hr⟩ := t_saved (d := 5) hM; have hM := CR_of hr; refine ⟨_, _, hc, ?_⟩; (conv => whnf)
    refine b2 A.2.2.1.length A.2.2.1.length rfl rfl (by omega) (by omega) (fun _ => ?_) (fun (q : ¬ A.2.2.1.length = A.2.2.1.length) => absurd rfl q)
    exact r_189n hP hn x _ _ _ _ _ _ _ _ A hM om
  · refine ⟨Nat.le_of_ble_eq_true rfl, rfl, ?_⟩; obtain ⟨_, hc, now, snap, rows, r, buf, rd, D, H, R, rfl, hr⟩ := hact _ _ hM rfl; have hM := CR_of hr; refine ⟨_, _, hc, ?_⟩; (conv => whnf)
    refine ⟨Nat.le_of_ble_eq_true rfl, rfl, ?_⟩; obtain ⟨_, hc, now, snap, rows, r, buf, rd, D, H, R, rfl, hr⟩ := s_told (d := 4) hM; have hM := CR_of hr; refine ⟨_, _, hc, ?_⟩; (conv => whnf)
    refine b1 1 rfl (by omega) (fun _ => ?_) (fun (q : ¬ ¬ 1 = 0) => by omega)
    have hl := svA_len A h5
    have h189 : ∀ (l6 l10 l11 : Option Value) (N : Mem), CR N (chg A a2) → P 189 [some (.ref 99), some (.ref 0), some (.int (nI j)), some (.int v), some (.int x), some (.long (tdF A.1)), l6, some (.int (nI A.2.2.1.length)), some (.int (nI 1)), some (.long (tdF a2)), l10, l11] [] N := fun l6 l10 l11 N hN => r_189d hP hn v x _ _ _ _ N A a2 hN om om2 hact
    refine hP _ _ _ _ ?_; (conv => whnf)
    refine ⟨Nat.le_of_ble_eq_true rfl, rfl, ?_⟩; obtain ⟨_, hc, now, snap, rows, r, buf, rd, D, H, R, rfl, hr⟩ := t_saved (d := 5) hM; have hM := CR_of hr; refine ⟨_, _, hc, ?_⟩; (conv => whnf)
    have hl2 : (chg A a2).2.2.1.length = svN A.2.2.1.length := hl
    have h184 : ∀ (y : Int32) (l6 l10 l11 : Option Value) (N : Mem), y = nI (svN A.2.2.1.length) → CR N (chg A a2) → P 184 [some (.ref 99), some (.ref 0), some (.int (nI j)), some (.int v), some (.int x), some (.long (tdF A.1)), l6, some (.int (nI A.2.2.1.length)), some (.int (nI 1)), some (.long (tdF a2)), l10, l11] [.int y, .int (nI (chg A a2).2.2.1.length)] N := by
      intro y l6 l10 l11 N hy hN
      have h6 : svN A.2.2.1.length < 2 ^ 31 := by unfold svN; split <;> omega
      rw [hl2]
      refine hP _ _ _ _ ?_; (conv => whnf)
      refine b2 (svN A.2.2.1.length) (svN A.2.2.1.length) rfl hy h6 h6 (fun _ => ?_) (fun (q : ¬ _ = _) => absurd rfl q)
      exact h189 _ _ _ N hN
    refine b2 A.2.2.1.length 5 rfl rfl (by omega) (by omega) (fun (q : 5 ≤ A.2.2.1.length) => ?_) (fun (q : ¬ 5 ≤ A.2.2.1.length) => ?_)
    · refine hP _ _ _ _ ?_; (conv => whnf)
      have e5 : svN A.2.2.1.length = 5 := by unfold svN; exact if_neg (by omega)
      have e6 : (chg A a2).2.2.1.length = 5 := by rw [hl2]; exact e5
      refine b2 (chg A a2).2.2.1.length 5 rfl rfl (by omega) (by omega) (fun _ => ?_) (fun (z : ¬ (chg A a2).2.2.1.length = 5) => absurd e6 z)
      exact h189 _ _ _ _ hM
    · (conv => whnf)
      refine h184 _ _ _ _ _ ?_ hM
      have e5 : svN A.2.2.1.length = A.2.2.1.length + 1 := by unfold svN; exact if_pos (by omega)
      rw [e5]
      exact nI_1 _
theorem r_loop (hP : LCl sn sx P) : ∀ (n j : Nat), j + n = 30 → ∀ (l3 l4 l5 l6 l7 l8 l9 l10 l11 : Option Value) (M : Mem) (A : AS), CR M A → okM A.1 → P 89 [some (.ref 99), some (.ref 0), some (.int (nI j)), l3, l4, l5, l6, l7, l8, l9, l10, l11] [] M := by
  intro n
  induction n with
  | zero =>
    intro j hj l3 l4 l5 l6 l7 l8 l9 l10 l11 M A hM om
    have hj : j = 30 := hj
    subst hj
    refine hP _ _ _ _ ?_; (conv => whnf)
    refine b2 30 30 rfl rfl (by omega) (by omega) (fun _ => ?_) (fun (q : ¬ 30 ≤ 30) => absurd (Nat.le_refl 30) q)
    refine hP _ _ _ _ ?_; (conv => whnf)
    exact rfl
  | succ n ih =>
    intro j hj l3 l4 l5 l6 l7 l8 l9 l10 l11 M A hM om
    refine hP _ _ _ _ ?_
    exact r_body hP (fun m3 m4 m5 m6 m7 m8 m9 m10 m11 M A hM om => ih (j + 1) (by omega) _ _ _ _ _ _ _ _ _ M A hM om) (by omega) _ _ _ _ _ _ _ _ _ M A hM om
end LR
/-! the fresh object -/
def q0 : NA := fun c => if c % 3 = 0 then 3 else c / 3
def A0 : AS := (([], q0, 0, 0), none, [], [])
theorem q0_lt : ∀ c, c < 9 → q0 c < 4 := by
  intro c hc
  unfold q0
  split
  · decide
  · omega
theorem q0_hq : hq q0 0 = 6 ∧ hq q0 1 = 48 ∧ hq q0 2 = 384 ∧ hq q0 3 = 73 := by decide +kernel
theorem A0_ok : okA A0.1 := by
  refine ⟨by decide, fun x hx => (by cases hx), ⟨q0_lt, ?_⟩, by decide, by decide⟩
  show itr (hq q0 3) 3 = true
  rw [q0_hq.2.2.2]
  decide +kernel
theorem A0_M : okM A0.1 := by
  refine ⟨fun x hx => (by cases hx), fun p hp => ?_⟩
  show pcN (hq q0 p) = 2
  have h3 : p = 0 ∨ p = 1 ∨ p = 2 := by omega
  rcases h3 with rfl | rfl | rfl
  · rw [q0_hq.1]; decide +kernel
  · rw [q0_hq.2.1]; decide +kernel
  · rw [q0_hq.2.2.1]; decide +kernel
theorem isA_nil (m : Nat) : isA [] m = true := isA_of (fun x hx => by cases hx)
set_option maxRecDepth 1000000 in
theorem any_CA : (List.range 9).all (fun c => (List.range 4).all (fun p => dq_D.any (fun m => (dq_hn m p).testBit c) && dq_D.any (fun m => !(dq_hn m p).testBit c))) = true := by decide +kernel
set_option maxRecDepth 1000000 in
theorem any_IE : (List.range 27).all (fun t => dq_D.any (fun m => Nat.beq (dq_hn m 3) (dq_mask t))) = true := by decide +kernel
theorem CA_nil {c p : Nat} (hc : c < 9) (hp : p < 4) : 0 < dCA [] c p ∧ ¬ dCA [] c p = dT [] := by
  have h := List.all_eq_true.mp (List.all_eq_true.mp any_CA c (List.mem_range.mpr hc)) p (List.mem_range.mpr hp)
  rw [Bool.and_eq_true] at h
  obtain ⟨m, hm, h1⟩ := List.any_eq_true.mp h.1
  obtain ⟨n, hn, h2⟩ := List.any_eq_true.mp h.2
  refine ⟨List.countP_pos_iff.mpr ⟨m, hm, by rw [isA_nil, h1]; rfl⟩, fun q => ?_⟩
  rw [dT_nil, ← dq_len] at q
  have h3 := List.countP_eq_length.mp q n hn
  rw [Bool.and_eq_true] at h3
  rw [h3.2] at h2; cases h2
theorem cnt_all {f : Nat → Bool} {n : Nat} (h : ∀ i, i < n → f i = true) : cntN f n = n := by
  unfold cntN
  rw [List.countP_eq_length.mpr (fun i hi => h i (List.mem_range.mp hi)), List.length_range]
theorem cnt_no {f : Nat → Bool} {n : Nat} (h : ∀ i, i < n → f i = false) : cntN f n = 0 := List.countP_eq_zero.mpr (fun i hi q => by rw [h i (List.mem_range.mp hi)] at q; cases q)
theorem nil_sure : cntN (fun c => spB (dT []) (dCA [] c)) 9 = 0 := cnt_no (fun c hc => by
  cases hb : spB (dT []) (dCA [] c) with
  | false => rfl
  | true =>
    obtain ⟨p, h1, h2, h3⟩ := spB_t.mp hb
    exact absurd h3 (CA_nil hc h1).2)
theorem nil_env : cntN (fun t => Nat.blt 0 (dIE [] t)) 27 = 27 := cnt_all (fun t ht => by
  have h := List.all_eq_true.mp any_IE t (List.mem_range.mpr ht)
  obtain ⟨m, hm, h1⟩ := List.any_eq_true.mp h
  exact Nat.ble_eq_true_of_le (List.countP_pos_iff.mpr ⟨m, hm, by rw [isA_nil, h1]; rfl⟩))
theorem nil_sum : rl_sum 9 (shW []) = 36 := by
  have h1 := hid_le (cl := []) (fun x hx => by cases hx) (fun x hx => by cases hx)
  have e : cntN (fun j => Nat.blt 0 (dCA [] (j / 4) (j % 4))) 36 = 36 := cnt_all (fun j hj => Nat.ble_eq_true_of_le (CA_nil (c := j / 4) (p := j % 4) (by omega) (by omega)).1)
  rw [e] at h1
  have h2 := rl_sum_36 (shW [])
  omega
theorem nil_br : shB [] = false := by
  cases h : shB [] with
  | false => rfl
  | true =>
    have := dT_0 (cl := []) (fun x hx => by cases hx) (fun x hx => by cases hx) h
    rw [dT_nil] at this; cases this
theorem ntr_73 : ntr 73 9 = 0 := by decide +kernel
theorem r_enter {sn : Nat} {sx : Nat → Int32} {P : Nat → LK} {R : List En} {N : Mem} (h : lW VCl (fun S _ => S = [.int 1]) sn sx P R [some (.ref 99), some (.ref 0), some (.int (nI 0)), none, none, none, none, none, none, none, none, none] [] N) : lW VCl (fun S _ => S = [.int 1]) sn sx P ((87, .iconst 0, 1, 0) :: (88, .istore_n 2, 1, 0) :: R) [some (.ref 99), some (.ref 0), none, none, none, none, none, none, none, none, none, none] [] N := h
theorem law_run {sn : Nat} {sx : Nat → Int32} {M : Mem} (hM : CR M A0) : LRun lawR sn sx 8 [some (.ref 99), some (.ref 0), none, none, none, none, none, none, none, none, none, none] [] M := by
  intro P hP
  have h87 : ∀ N, CR N A0 → P 87 [some (.ref 99), some (.ref 0), none, none, none, none, none, none, none, none, none, none] [] N := by
    intro N hN
    refine hP _ _ _ _ ?_
    have e : fndC lawR 87 = (87, .iconst 0, 1, 0) :: (88, .istore_n 2, 1, 0) :: fndC lawR 89 := rfl
    rw [e]
    refine r_enter ?_
    exact r_body (j := 0) hP (fun m3 m4 m5 m6 m7 m8 m9 m10 m11 M A hM om => r_loop hP 29 1 rfl _ _ _ _ _ _ _ _ _ M A hM om) (by decide) none none none none none none none none none N A0 hN A0_M
  have h71 : ∀ N, CR N A0 → lW VCl (fun S _ => S = [.int 1]) sn sx P (fndC lawR 71) [some (.ref 99), some (.ref 0), none, none, none, none, none, none, none, none, none, none] [] N := by
    intro N hN
    obtain ⟨now, snap, rows, r, buf, rd, D, H, R, rfl, hr⟩ := hN; have hM := CR_of hr
    conv => whnf
    have g := t_sures (d := 5) hM
    rw [show cntN (fun c => spB (dT A0.1.1) (dCA A0.1.1 c)) 9 = 0 from nil_sure] at g
    refine ⟨Nat.le_of_ble_eq_true rfl, rfl, ?_⟩; obtain ⟨_, hc, now, snap, rows, r, buf, rd, D, H, R, rfl, hr⟩ := g; have hM := CR_of hr; refine ⟨_, _, hc, ?_⟩; (conv => whnf)
    refine b1 0 rfl (by omega) (fun (q : ¬ 0 = 0) => absurd rfl q) (fun _ => ?_); (conv => whnf)
    refine ⟨Nat.le_of_ble_eq_true rfl, rfl, ?_⟩; obtain ⟨_, hc, now, snap, rows, r, buf, rd, D, H, R, rfl, hr⟩ := t_stopped (d := 5) hM; have hM := CR_of hr; refine ⟨_, _, hc, ?_⟩; (conv => whnf)
    refine b1 0 rfl (by omega) (fun _ => ?_) (fun (q : ¬ 0 = 0) => absurd rfl q)
    exact h87 _ hM
  have h55 : ∀ N, CR N A0 → lW VCl (fun S _ => S = [.int 1]) sn sx P (fndC lawR 55) [some (.ref 99), some (.ref 0), none, none, none, none, none, none, none, none, none, none] [] N := by
    intro N hN
    obtain ⟨now, snap, rows, r, buf, rd, D, H, R, rfl, hr⟩ := hN; have hM := CR_of hr
    conv => whnf
    have g := t_crossed (d := 5) hM
    rw [show nI 36 - nI (rl_sum 9 (shW A0.1.1)) = nI 0 from by show nI 36 - nI (rl_sum 9 (shW [])) = nI 0; rw [nil_sum]; exact pk_sub (Nat.le_refl 36)] at g
    refine ⟨Nat.le_of_ble_eq_true rfl, rfl, ?_⟩; obtain ⟨_, hc, now, snap, rows, r, buf, rd, D, H, R, rfl, hr⟩ := g; have hM := CR_of hr; refine ⟨_, _, hc, ?_⟩; (conv => whnf)
    refine b1 0 rfl (by omega) (fun (q : ¬ 0 = 0) => absurd rfl q) (fun _ => ?_); (conv => whnf)
    have g := t_envs (d := 5) hM
    rw [show cntN (fun t => Nat.blt 0 (dIE A0.1.1 t)) 27 = 27 from nil_env] at g
    refine ⟨Nat.le_of_ble_eq_true rfl, rfl, ?_⟩; obtain ⟨_, hc, now, snap, rows, r, buf, rd, D, H, R, rfl, hr⟩ := g; have hM := CR_of hr; refine ⟨_, _, hc, ?_⟩; (conv => whnf)
    refine b2 27 27 rfl rfl (by omega) (by omega) (fun (q : ¬ 27 = 27) => absurd rfl q) (fun _ => ?_)
    exact h71 _ hM
  have h32 : ∀ N, CR N A0 → lW VCl (fun S _ => S = [.int 1]) sn sx P (fndC lawR 32) [some (.ref 99), some (.ref 0), none, none, none, none, none, none, none, none, none, none] [] N := by
    intro N hN
    obtain ⟨now, snap, rows, r, buf, rd, D, H, R, rfl, hr⟩ := hN; have hM := CR_of hr
    conv => whnf
    have g := t_env (d := 5) hM
    rw [show ntr (hq A0.1.2.1 3) 9 = 0 from by show ntr (hq q0 3) 9 = 0; rw [q0_hq.2.2.2]; exact ntr_73] at g
    refine ⟨Nat.le_of_ble_eq_true rfl, rfl, ?_⟩; obtain ⟨_, hc, now, snap, rows, r, buf, rd, D, H, R, rfl, hr⟩ := g; have hM := CR_of hr; refine ⟨_, _, hc, ?_⟩; (conv => whnf)
    refine b1 0 rfl (by omega) (fun (q : ¬ 0 = 0) => absurd rfl q) (fun _ => ?_); (conv => whnf)
    refine ⟨Nat.le_of_ble_eq_true rfl, rfl, ?_⟩; obtain ⟨_, hc, now, snap, rows, r, buf, rd, D, H, R, rfl, hr⟩ := t_place (d := 5) hM (show 4 < 9 by decide); have hM := CR_of hr; refine ⟨_, _, hc, ?_⟩; (conv => whnf)
    refine b2 1 1 rfl rfl (by omega) (by omega) (fun (q : ¬ 1 = 1) => absurd rfl q) (fun _ => ?_); (conv => whnf)
    have g := t_broken (d := 5) hM
    rw [show shB A0.1.1 = false from nil_br] at g
    refine ⟨Nat.le_of_ble_eq_true rfl, rfl, ?_⟩; obtain ⟨_, hc, now, snap, rows, r, buf, rd, D, H, R, rfl, hr⟩ := g; have hM := CR_of hr; refine ⟨_, _, hc, ?_⟩; (conv => whnf)
    refine b1 0 rfl (by omega) (fun (q : ¬ 0 = 0) => absurd rfl q) (fun _ => ?_)
    exact h55 _ hM
  obtain ⟨now, snap, rows, r, buf, rd, D, H, R, rfl, hr⟩ := hM; have hM := CR_of hr
  refine hP _ _ _ _ ?_; (conv => whnf)
  refine ⟨Nat.le_of_ble_eq_true rfl, rfl, ?_⟩; obtain ⟨_, hc, now, snap, rows, r, buf, rd, D, H, R, rfl, hr⟩ := t_saved (d := 5) hM; have hM := CR_of hr; refine ⟨_, _, hc, ?_⟩; (conv => whnf)
  refine b1 0 rfl (by omega) (fun (q : ¬ 0 = 0) => absurd rfl q) (fun _ => ?_); (conv => whnf)
  refine ⟨Nat.le_of_ble_eq_true rfl, rfl, ?_⟩; obtain ⟨_, hc, now, snap, rows, r, buf, rd, D, H, R, rfl, hr⟩ := t_clues (d := 5) hM; have hM := CR_of hr; refine ⟨_, _, hc, ?_⟩; (conv => whnf)
  refine b1 0 rfl (by omega) (fun (q : ¬ 0 = 0) => absurd rfl q) (fun _ => ?_); (conv => whnf)
  have g := t_deals (d := 5) hM
  rw [show dT A0.1.1 = 2430 from dT_nil] at g
  refine ⟨Nat.le_of_ble_eq_true rfl, rfl, ?_⟩; obtain ⟨_, hc, now, snap, rows, r, buf, rd, D, H, R, rfl, hr⟩ := g; have hM := CR_of hr; refine ⟨_, _, hc, ?_⟩; (conv => whnf)
  refine b2 2430 2430 rfl rfl (by omega) (by omega) (fun (q : ¬ 2430 = 2430) => absurd rfl q) (fun _ => ?_)
  exact h32 _ hM
