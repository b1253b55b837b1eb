/-! p53: the law's holds: a proof holds in each deal left, and the rest of what it asks -/
theorem dT_nil : dT [] = 2430 := by
  unfold dT
  rw [← dq_len]
  exact List.countP_eq_length.mpr (fun m _ => isA_of (fun x hx => by cases hx))
theorem lvs_le {T n : Nat} (h : n ≤ T) : lvs T n ≤ T := by
  unfold lvs; split <;> omega
section HOLDS
variable {d : Nat} {M : Mem} {A : AS} {p t : Nat}
set_option maxHeartbeats 2000000 in
set_option maxRecDepth 100000 in
theorem s_holds (hM : CR M A) (om : okM A.1) (hp : p < 3) (ht : t < 27) : ∃ M', Cl (d + 16) kL_holds [.ref 0, .int (nI p), .int (nI t)] M (rV (nI 1)) M' ∧ CR M' A := by
  suffices hh : ∃ r M', (r = rV (nI 1) ∧ CR M' A) ∧ Cl (d + 16) kL_holds [.ref 0, .int (nI p), .int (nI t)] M r M' by
    obtain ⟨r, M', ⟨rfl, h1⟩, h2⟩ := hh
    exact ⟨M', h2, h1⟩
  have oa := CR_okA hM
  have hn := oa.1
  have hok := okA_rl oa
  have h0 := om.1
  have hT := dT_le A.1.1
  have hlen : ∀ {N : Mem}, CR N A → N.length = M.length := fun h => (CR_len h).trans (CR_len hM).symm
  have hne : ∃ r M', (r = rV (nI 1) ∧ CR M' A) := ⟨_, M, rfl, hM⟩
  have hIE : ∀ j, dIE A.1.1 j < 2 ^ 31 := fun j => by have := dIE_le A.1.1 j; omega
  have hCA : ∀ c q, dCA A.1.1 c q < 2 ^ 31 := fun c q => by have := dCA_le A.1.1 c q; omega
  have hLV : ∀ j, lvs (dT A.1.1) (wnN A.1.1 p j) < 2 ^ 31 := fun j => by have := lvs_le (wnN_le A.1.1 p j); omega
  obtain ⟨now, snap, rows, r, buf, rd, D, H, R, rfl, hr⟩ := hM; have hM := CR_of hr
  refine Cl_goQ e_L_holds rfl (Nat.le_of_ble_eq_true rfl) (fun r M' q => hlen q.2) (hne) ?_; intro P hP; refine hP _ _ _ _ ?_; (conv => whnf)
  have h344 : ∀ N, CR N A → P 344 [none, none, none, none, none, none, none, none, none] [.int (nI 1)] N := by
    intro N hN
    refine hP _ _ _ _ ?_; (conv => whnf)
    exact ⟨rfl, ⟨.boolean, rfl, rfl⟩, rfl, hN⟩
  have h318 : ∀ (i : Bool) N, CR N A → P 318 [some (.ref 0), none, none, none, none, none, none, none, none] [.int (bI i), .int (bI i)] N := by
    intro i N hN
    have tail : wI (Cl (d + 15)) (fun r M' => r = rV (nI 1) ∧ CR M' A) (some .boolean) P (fnd pgL_holds 321) [some (.ref 0), none, none, none, none, none, none, none, none] [] N := by
      obtain ⟨now, snap, rows, r, buf, rd, D, H, R, rfl, hr⟩ := hN; have hM := CR_of hr
      conv => whnf
      refine ⟨Nat.le_of_ble_eq_true rfl, rfl, ?_⟩; (conv => whnf); obtain ⟨_, hc, now, snap, rows, r, buf, rd, D, H, R, rfl, hr⟩ := t_chance (d := d) hM; have hM := CR_of hr; refine Or.inl ⟨_, _, hc, ?_⟩; (conv => whnf)
      refine ⟨fun q => absurd q (shX_ge0 A.1.1), fun _ => ?_⟩; (conv => whnf)
      refine ⟨Nat.le_of_ble_eq_true rfl, rfl, ?_⟩; (conv => whnf); obtain ⟨_, hc, now, snap, rows, r, buf, rd, D, H, R, rfl, hr⟩ := t_chance (d := d) hM; have hM := CR_of hr; refine Or.inl ⟨_, _, hc, ?_⟩; (conv => whnf)
      refine ⟨fun q => absurd q (shX_le1 A.1.1), fun _ => ?_⟩; (conv => whnf)
      exact h344 _ hM
    refine hP _ _ _ _ ?_; (conv => whnf)
    cases i with
    | true => exact b2 1 1 rfl rfl (by omega) (by omega) (fun (q : ¬ 1 = 1) => absurd rfl q) (fun _ => tail)
    | false => exact b2 0 0 rfl rfl (by omega) (by omega) (fun (q : ¬ 0 = 0) => absurd rfl q) (fun _ => tail)
  have h285 : ∀ N, CR N A → P 285 [some (.ref 0), none, none, none, some (.int (nI 1)), none, none, none, none] [] N := by
    intro N hN
    obtain ⟨now, snap, rows, r, buf, rd, D, H, R, rfl, hr⟩ := hN; have hM := CR_of hr
    refine hP _ _ _ _ ?_; (conv => whnf)
    refine b1 1 rfl (by omega) (fun (q : 1 = 0) => by omega) (fun _ => ?_); (conv => whnf)
    refine ⟨Nat.le_of_ble_eq_true rfl, rfl, ?_⟩; (conv => whnf); obtain ⟨_, hc, now, snap, rows, r, buf, rd, D, H, R, rfl, hr⟩ := t_idle (d := d) hM; have hM := CR_of hr; refine Or.inl ⟨_, _, hc, ?_⟩; (conv => whnf)
    refine ⟨Nat.le_of_ble_eq_true rfl, rfl, ?_⟩; (conv => whnf); obtain ⟨_, hc, now, snap, rows, r, buf, rd, D, H, R, rfl, hr⟩ := t_clues (d := d) hM; have hM := CR_of hr; refine Or.inl ⟨_, _, hc, ?_⟩; (conv => whnf)
    have hi := cntN_le (fun k => Nat.beq (dT A.1.1 + dHB A.1.1 k) (dT A.1.1)) A.1.1.length
    refine b2 (cntN (fun k => Nat.beq (dT A.1.1 + dHB A.1.1 k) (dT A.1.1)) A.1.1.length) A.1.1.length rfl rfl (by omega) (by omega) (fun (q : A.1.1.length < _) => by omega) (fun _ => ?_)
    have hN := hM
    show wI (Cl (d + 15)) (fun r M' => r = rV (nI 1) ∧ CR M' A) (some .boolean) P (fnd pgL_holds 301) [some (.ref 0), none, none, none, none, none, none, none, none] [] _
    conv => whnf
    refine ⟨Nat.le_of_ble_eq_true rfl, rfl, ?_⟩; (conv => whnf); obtain ⟨_, hc, now, snap, rows, r, buf, rd, D, H, R, rfl, hr⟩ := t_solved (d := d) hM; have hM := CR_of hr; refine Or.inl ⟨_, _, hc, ?_⟩; (conv => whnf)
    refine ⟨Nat.le_of_ble_eq_true rfl, rfl, ?_⟩; (conv => whnf); obtain ⟨_, hc, now, snap, rows, r, buf, rd, D, H, R, rfl, hr⟩ := t_envs (d := d) hM; have hM := CR_of hr; refine Or.inl ⟨_, _, hc, ?_⟩; (conv => whnf)
    have he := cntN_le (fun t => Nat.blt 0 (dIE A.1.1 t)) 27
    generalize cntN (fun t => Nat.blt 0 (dIE A.1.1 t)) 27 = ee at he
    refine b2 ee 1 rfl rfl (by omega) (by omega) (fun (q : ¬ ee = 1) => ?_) (fun (q : ¬ ¬ ee = 1) => ?_)
    · refine hP _ _ _ _ ?_; (conv => whnf)
      rw [nbf q]
      exact h318 false _ hM
    · (conv => whnf)
      rw [nbt (Decidable.of_not_not q)]
      exact h318 true _ hM
  have h283 : ∀ N, CR N A → P 283 [some (.ref 0), none, none, none, none, none, none, none, none] [.int (nI 1)] N := by
    intro N hN
    refine hP _ _ _ _ ?_; (conv => whnf)
    exact h285 _ hN
  have h234 : ∀ N, CR N A → P 234 [some (.ref 0), some (.int (nI p)), some (.int (nI t)), some (.int (nI (dT A.1.1))), some (.int (nI 1)), none, none, none, none] [] N := by
    intro N hN
    obtain ⟨now, snap, rows, r, buf, rd, D, H, R, rfl, hr⟩ := hN; have hM := CR_of hr
    refine hP _ _ _ _ ?_; (conv => whnf)
    refine b1 (dT A.1.1) rfl (by omega) (fun (q : dT A.1.1 ≤ 0) => ?_) (fun (q : ¬ dT A.1.1 ≤ 0) => ?_)
    · exact h285 _ hM
    · (conv => whnf)
      have hT0 : ¬ dT A.1.1 = 0 := by omega
      refine b1 1 rfl (by omega) (fun (q : 1 = 0) => by omega) (fun _ => ?_); (conv => whnf)
      refine ⟨Nat.le_of_ble_eq_true rfl, rfl, ?_⟩; (conv => whnf); obtain ⟨_, hc, now, snap, rows, r, buf, rd, D, H, R, rfl, hr⟩ := t_bestA (d := d) hM hT0; have hM := CR_of hr; refine Or.inl ⟨_, _, hc, ?_⟩; (conv => whnf)
      have ha := amx_le (dIE A.1.1) 26
      refine ⟨Nat.le_of_ble_eq_true rfl, rfl, ?_⟩; (conv => whnf); obtain ⟨_, hc, now, snap, rows, r, buf, rd, D, H, R, rfl, hr⟩ := t_envD (d := d) hM (show amx (dIE A.1.1) 26 < 27 by omega); have hM := CR_of hr; refine Or.inl ⟨_, _, hc, ?_⟩; (conv => whnf)
      refine ⟨Nat.le_of_ble_eq_true rfl, rfl, ?_⟩; (conv => whnf); obtain ⟨_, hc, now, snap, rows, r, buf, rd, D, H, R, rfl, hr⟩ := t_envD (d := d) hM ht; have hM := CR_of hr; refine Or.inl ⟨_, _, hc, ?_⟩; (conv => whnf)
      have hg := amx_ge (dIE A.1.1) 26 t (by omega)
      refine b2 (dIE A.1.1 (amx (dIE A.1.1) 26)) (dIE A.1.1 t) rfl rfl (hIE _) (hIE _) (fun (q : _ < dIE A.1.1 t) => by omega) (fun _ => ?_)
      show wI (Cl (d + 15)) (fun r M' => r = rV (nI 1) ∧ CR M' A) (some .boolean) P (fnd pgL_holds 259) [some (.ref 0), some (.int (nI p)), some (.int (nI t)), none, none, none, none, none, none] [] _
      conv => whnf
      refine ⟨Nat.le_of_ble_eq_true rfl, rfl, ?_⟩; (conv => whnf); obtain ⟨_, hc, now, snap, rows, r, buf, rd, D, H, R, rfl, hr⟩ := t_bestQ (d := d) hM hp hT0; have hM := CR_of hr; refine Or.inl ⟨_, _, hc, ?_⟩; (conv => whnf)
      have hb := amn_le (fun t => lvs (dT A.1.1) (wnN A.1.1 p t)) 26
      refine ⟨Nat.le_of_ble_eq_true rfl, rfl, ?_⟩; (conv => whnf); obtain ⟨_, hc, now, snap, rows, r, buf, rd, D, H, R, rfl, hr⟩ := t_left (d := d) hM hp (show amn (fun t => lvs (dT A.1.1) (wnN A.1.1 p t)) 26 < 27 by omega); have hM := CR_of hr; refine Or.inl ⟨_, _, hc, ?_⟩; (conv => whnf)
      refine ⟨Nat.le_of_ble_eq_true rfl, rfl, ?_⟩; (conv => whnf); obtain ⟨_, hc, now, snap, rows, r, buf, rd, D, H, R, rfl, hr⟩ := t_left (d := d) hM hp ht; have hM := CR_of hr; refine Or.inl ⟨_, _, hc, ?_⟩; (conv => whnf)
      have hg2 := amn_ge (fun t => lvs (dT A.1.1) (wnN A.1.1 p t)) 26 t (by omega)
      refine b2 (lvs (dT A.1.1) (wnN A.1.1 p (amn (fun t => lvs (dT A.1.1) (wnN A.1.1 p t)) 26))) (lvs (dT A.1.1) (wnN A.1.1 p t)) rfl rfl (hLV _) (hLV _) (fun (q : lvs (dT A.1.1) (wnN A.1.1 p t) < _) => absurd q (Nat.not_lt.mpr hg2)) (fun _ => ?_); (conv => whnf)
      exact h283 _ hM
  have h232 : ∀ N, CR N A → P 232 [some (.ref 0), some (.int (nI p)), some (.int (nI t)), some (.int (nI (dT A.1.1))), none, none, none, none, none] [.int (nI 1)] N := by
    intro N hN
    refine hP _ _ _ _ ?_; (conv => whnf)
    exact h234 _ hN
  have h191 : ∀ N, CR N A → P 191 [some (.ref 0), some (.int (nI p)), some (.int (nI t)), some (.int (nI (dT A.1.1))), none, none, none, none, none] [.int (nI 1)] N := by
    intro N hN
    obtain ⟨now, snap, rows, r, buf, rd, D, H, R, rfl, hr⟩ := hN; have hM := CR_of hr
    refine hP _ _ _ _ ?_; (conv => whnf)
    refine ⟨Nat.le_of_ble_eq_true rfl, rfl, ?_⟩; (conv => whnf); obtain ⟨_, hc, now, snap, rows, r, buf, rd, D, H, R, rfl, hr⟩ := t_untrue (d := d) hM; have hM := CR_of hr; refine Or.inl ⟨_, _, hc, ?_⟩; (conv => whnf)
    have hu := cntN_le (fun k => !agG A.1 k) A.1.1.length
    refine b1 (cntN (fun k => !agG A.1 k) A.1.1.length) rfl (by omega) (fun (q : ¬ _ = 0) => ?_) (fun (q : ¬ ¬ cntN (fun k => !agG A.1 k) A.1.1.length = 0) => ?_)
    · exact h234 _ hM
    · (conv => whnf)
      obtain ⟨u1, u2, u3, u4⟩ := untrue_0 oa om (Decidable.of_not_not q)
      refine b1 1 rfl (by omega) (fun (q : 1 = 0) => by omega) (fun _ => ?_); (conv => whnf)
      refine b1 (dT A.1.1) rfl (by omega) (fun (q : dT A.1.1 ≤ 0) => by omega) (fun _ => ?_); (conv => whnf)
      have hb := t_broken (d := d) hM
      rw [u2] at hb
      refine ⟨Nat.le_of_ble_eq_true rfl, rfl, ?_⟩; (conv => whnf); obtain ⟨_, hc, now, snap, rows, r, buf, rd, D, H, R, rfl, hr⟩ := hb; have hM := CR_of hr; refine Or.inl ⟨_, _, hc, ?_⟩; (conv => whnf)
      refine b1 0 rfl (by omega) (fun (q : ¬ 0 = 0) => absurd rfl q) (fun _ => ?_); (conv => whnf)
      refine ⟨Nat.le_of_ble_eq_true rfl, rfl, ?_⟩; (conv => whnf); obtain ⟨_, hc, now, snap, rows, r, buf, rd, D, H, R, rfl, hr⟩ := t_env (d := d) hM; have hM := CR_of hr; refine Or.inl ⟨_, _, hc, ?_⟩; (conv => whnf)
      refine ⟨Nat.le_of_ble_eq_true rfl, rfl, ?_⟩; (conv => whnf); obtain ⟨_, hc, now, snap, rows, r, buf, rd, D, H, R, rfl, hr⟩ := t_envD (d := d) hM u3; have hM := CR_of hr; refine Or.inl ⟨_, _, hc, ?_⟩; (conv => whnf)
      refine b1 (dIE A.1.1 (ntr (hq A.1.2.1 3) 9)) rfl (hIE _) (fun (q : _ ≤ 0) => by omega) (fun _ => ?_); (conv => whnf)
      exact h232 _ hM
  have lp : ∀ (j i : Nat) (x y : Int32) (N : Mem), x = nI i → i + j = 9 → y = nI (cntN (fun c => spB (dT A.1.1) (dCA A.1.1 c)) i) → CR N A → P 78 [some (.ref 0), some (.int (nI p)), some (.int (nI t)), some (.int (nI (dT A.1.1))), some (.int (nI 1)), some (.int y), some (.int x), none, none] [] N := by
    intro j
    induction j with
    | zero =>
      intro i x y N hx hi hy hN
      have hi : i = 9 := hi
      subst hi
      subst hy
      obtain ⟨now, snap, rows, r, buf, rd, D, H, R, rfl, hr⟩ := hN; have hM := CR_of hr
      refine hP _ _ _ _ ?_; (conv => whnf)
      refine b2 9 9 hx rfl (by omega) (by omega) (fun _ => ?_) (fun (q : ¬ 9 ≤ 9) => by omega)
      refine hP _ _ _ _ ?_; (conv => whnf)
      refine b1 1 rfl (by omega) (fun (q : 1 = 0) => by omega) (fun _ => ?_); (conv => whnf)
      refine ⟨Nat.le_of_ble_eq_true rfl, rfl, ?_⟩; (conv => whnf); obtain ⟨_, hc, now, snap, rows, r, buf, rd, D, H, R, rfl, hr⟩ := t_sures (d := d) hM; have hM := CR_of hr; refine Or.inl ⟨_, _, hc, ?_⟩; (conv => whnf)
      have hs := cntN_le (fun c => spB (dT A.1.1) (dCA A.1.1 c)) 9
      refine b2 (cntN (fun c => spB (dT A.1.1) (dCA A.1.1 c)) 9) (cntN (fun c => spB (dT A.1.1) (dCA A.1.1 c)) 9) rfl rfl (by omega) (by omega) (fun (q : ¬ _ = _) => absurd rfl q) (fun _ => ?_); (conv => whnf)
      exact h191 _ hM
    | succ j ih =>
      intro i x y N hx hi hy hN
      subst hx
      have hi9 : i < 9 := by omega
      have h164 : ∀ (y2 : Int32) N, y2 = nI (cntN (fun c => spB (dT A.1.1) (dCA A.1.1 c)) (i + 1)) → CR N A → P 164 [some (.ref 0), some (.int (nI p)), some (.int (nI t)), some (.int (nI (dT A.1.1))), none, some (.int y2), some (.int (nI i)), none, none] [.int (nI 1)] N := by
        intro y2 N hy2 hN
        refine hP _ _ _ _ ?_; (conv => whnf)
        exact ih (i + 1) _ _ _ (nI_1 i) (by omega) hy2 hN
      have h159 : ∀ (y2 : Int32) N, y2 = nI (cntN (fun c => spB (dT A.1.1) (dCA A.1.1 c)) (i + 1)) → CR N A → P 159 [some (.ref 0), some (.int (nI p)), some (.int (nI t)), some (.int (nI (dT A.1.1))), none, some (.int y2), some (.int (nI i)), none, none] [] N := by
        intro y2 N hy2 hN
        refine hP _ _ _ _ ?_; (conv => whnf)
        exact h164 _ _ hy2 hN
      have h138 : ∀ (y2 s : Int32) N, y2 = nI (cntN (fun c => spB (dT A.1.1) (dCA A.1.1 c)) (i + 1)) → (s = cst (-1) ∨ ∃ q, q < 4 ∧ 0 < dT A.1.1 ∧ dCA A.1.1 i q = dT A.1.1 ∧ s = nI q) → CR N A → P 138 [some (.ref 0), some (.int (nI p)), some (.int (nI t)), some (.int (nI (dT A.1.1))), none, some (.int y2), some (.int (nI i)), none, some (.int s)] [] N := by
        intro y2 s N hy2 hs hN
        obtain ⟨now, snap, rows, r, buf, rd, D, H, R, rfl, hr⟩ := hN; have hM := CR_of hr
        refine hP _ _ _ _ ?_; (conv => whnf)
        rcases hs with hs | ⟨q, hq4, hq0, hqT, hs⟩
        · subst hs
          refine ⟨fun _ => h159 _ _ hy2 hM, fun z => absurd lt0_m1 z⟩
        · subst hs
          refine b1 q rfl (by omega) (fun (z : q < 0) => by omega) (fun _ => ?_); (conv => whnf)
          refine b1 (dT A.1.1) rfl (by omega) (fun (z : dT A.1.1 ≤ 0) => by omega) (fun _ => ?_); (conv => whnf)
          refine ⟨Nat.le_of_ble_eq_true rfl, rfl, ?_⟩; (conv => whnf); obtain ⟨_, hc, now, snap, rows, r, buf, rd, D, H, R, rfl, hr⟩ := t_with (d := d) hM hi9 hq4; have hM := CR_of hr; refine Or.inl ⟨_, _, hc, ?_⟩; (conv => whnf)
          refine b2 (dCA A.1.1 i q) (dT A.1.1) rfl rfl (hCA _ _) (by omega) (fun (z : ¬ dCA A.1.1 i q = dT A.1.1) => absurd hqT z) (fun _ => ?_); (conv => whnf)
          exact h159 _ _ hy2 hM
      have h113 : ∀ (z1 z2 ru s : Int32) N, z1 + z2 = nI (cntN (fun c => spB (dT A.1.1) (dCA A.1.1 c)) (i + 1)) → (ru = cst (-1) ∨ ∃ q, q < 4 ∧ dCA A.1.1 i q = dT A.1.1 ∧ ru = nI q) → (s = cst (-1) ∨ ∃ q, q < 4 ∧ 0 < dT A.1.1 ∧ dCA A.1.1 i q = dT A.1.1 ∧ s = nI q) → CR N A → P 113 [some (.ref 0), some (.int (nI p)), some (.int (nI t)), some (.int (nI (dT A.1.1))), some (.int (nI 1)), none, some (.int (nI i)), some (.int ru), some (.int s)] [.int z2, .int z1] N := by
        intro z1 z2 ru s N hz hru hs hN
        obtain ⟨now, snap, rows, r, buf, rd, D, H, R, rfl, hr⟩ := hN; have hM := CR_of hr
        refine hP _ _ _ _ ?_; (conv => whnf)
        refine b1 1 rfl (by omega) (fun (q : 1 = 0) => by omega) (fun _ => ?_); (conv => whnf)
        rcases hru with hru | ⟨q, hq4, hqT, hru⟩
        · subst hru
          exact ⟨fun _ => h138 _ _ _ hz hs hM, fun z => absurd lt0_m1 z⟩
        · subst hru
          refine b1 q rfl (by omega) (fun (z : q < 0) => by omega) (fun _ => ?_); (conv => whnf)
          refine ⟨Nat.le_of_ble_eq_true rfl, rfl, ?_⟩; (conv => whnf); obtain ⟨_, hc, now, snap, rows, r, buf, rd, D, H, R, rfl, hr⟩ := t_with (d := d) hM hi9 hq4; have hM := CR_of hr; refine Or.inl ⟨_, _, hc, ?_⟩; (conv => whnf)
          refine b2 (dCA A.1.1 i q) (dT A.1.1) rfl rfl (hCA _ _) (by omega) (fun (z : ¬ dCA A.1.1 i q = dT A.1.1) => absurd hqT z) (fun _ => ?_); (conv => whnf)
          exact h138 _ _ _ hz hs hM
      have hru : oplG (shW A.1.1 i) 4 0 = cst (-1) ∨ ∃ q, q < 4 ∧ dCA A.1.1 i q = dT A.1.1 ∧ oplG (shW A.1.1 i) 4 0 = nI q := by
        rcases oplG_val (shW A.1.1 i) 4 0 with h | ⟨q, h1, h2, h3, h4⟩
        · exact Or.inl h
        · exact Or.inr ⟨q, by omega, opl_dCA hok h0 hi9 (by omega) h3, h4⟩
      obtain ⟨now, snap, rows, r, buf, rd, D, H, R, rfl, hr⟩ := hN; have hM := CR_of hr
      refine hP _ _ _ _ ?_; (conv => whnf)
      refine b2 i 9 rfl rfl (by omega) (by omega) (fun (q : 9 ≤ i) => by omega) (fun _ => ?_); (conv => whnf)
      refine ⟨Nat.le_of_ble_eq_true rfl, rfl, ?_⟩; (conv => whnf); obtain ⟨_, hc, now, snap, rows, r, buf, rd, D, H, R, rfl, hr⟩ := t_rule (d := d) hM hi9; have hM := CR_of hr; refine Or.inl ⟨_, _, hc, ?_⟩; (conv => whnf)
      generalize oplG (shW A.1.1 i) 4 0 = rr at hru
      refine ⟨Nat.le_of_ble_eq_true rfl, rfl, ?_⟩; (conv => whnf); obtain ⟨_, hc, now, snap, rows, r, buf, rd, D, H, R, rfl, hr⟩ := t_sure (d := d) hM hi9; have hM := CR_of hr; refine Or.inl ⟨_, _, hc, ?_⟩; (conv => whnf)
      rcases splG_val (dT A.1.1) (dCA A.1.1 i) 4 0 with ⟨g1, g2⟩ | ⟨q, q1, q2, q3, q4, q5⟩
      · have hB : spB (dT A.1.1) (dCA A.1.1 i) = false := by
          cases hb : spB (dT A.1.1) (dCA A.1.1 i) with
          | false => rfl
          | true =>
            obtain ⟨q, q1, q2, q3⟩ := spB_t.mp hb
            exact absurd ⟨q2, q3⟩ (g2 q (by omega) (by omega))
        rw [g1]
        refine ⟨fun z => absurd z (show ¬ (0 : Int32) ≤ cst (-1) by decide), fun _ => ?_⟩; (conv => whnf)
        exact h113 _ _ _ _ _ (by rw [hy]; exact cntN_f hB) hru (Or.inl rfl) hM
      · have hB : spB (dT A.1.1) (dCA A.1.1 i) = true := spB_t.mpr ⟨q, by omega, q3, q4⟩
        rw [q5]
        refine b1 q rfl (by omega) (fun _ => ?_) (fun (z : ¬ 0 ≤ q) => by omega)
        refine hP _ _ _ _ ?_; (conv => whnf)
        exact h113 _ _ _ _ _ (by rw [hy]; exact cntN_t hB) hru (Or.inr ⟨q, by omega, q3, q4, rfl⟩) hM
  have h70 : ∀ N, CR N A → P 70 [some (.ref 0), some (.int (nI p)), some (.int (nI t)), some (.int (nI (dT A.1.1))), none, none, none, none, none] [.int (nI 1)] N := by
    intro N hN
    refine hP _ _ _ _ ?_; (conv => whnf)
    exact lp 9 0 _ _ _ rfl rfl rfl hN
  have h58 : ∀ N, CR N A → P 58 [some (.ref 0), some (.int (nI p)), some (.int (nI t)), some (.int (nI (dT A.1.1))), none, none, none, none, none] [] N := by
    intro N hN
    have h1 := hid_le hok h0
    have h2 := rl_sum_36 (shW A.1.1)
    obtain ⟨now, snap, rows, r, buf, rd, D, H, R, rfl, hr⟩ := hN; have hM := CR_of hr
    refine hP _ _ _ _ ?_; (conv => whnf)
    refine ⟨Nat.le_of_ble_eq_true rfl, rfl, ?_⟩; (conv => whnf); obtain ⟨_, hc, now, snap, rows, r, buf, rd, D, H, R, rfl, hr⟩ := t_hidden (d := d) hM; have hM := CR_of hr; refine Or.inl ⟨_, _, hc, ?_⟩; (conv => whnf)
    refine b1 (rl_sum 9 (shW A.1.1) - cntN (fun j => Nat.blt 0 (dCA A.1.1 (j / 4) (j % 4))) 36) (pk_sub h1) (by omega) (fun (q : _ < 0) => by omega) (fun _ => ?_); (conv => whnf)
    exact h70 _ hM
  have h38 : ∀ N, CR N A → P 38 [some (.ref 0), some (.int (nI p)), some (.int (nI t)), some (.int (nI (dT A.1.1))), none, none, none, none, none] [] N := by
    intro N hN
    obtain ⟨now, snap, rows, r, buf, rd, D, H, R, rfl, hr⟩ := hN; have hM := CR_of hr
    refine hP _ _ _ _ ?_; (conv => whnf)
    have hb := t_broken (d := d) hM
    cases hs : shB A.1.1 with
    | false =>
      rw [hs] at hb
      refine ⟨Nat.le_of_ble_eq_true rfl, rfl, ?_⟩; (conv => whnf); obtain ⟨_, hc, now, snap, rows, r, buf, rd, D, H, R, rfl, hr⟩ := hb; have hM := CR_of hr; refine Or.inl ⟨_, _, hc, ?_⟩; (conv => whnf)
      refine b1 0 rfl (by omega) (fun _ => ?_) (fun (q : ¬ 0 = 0) => absurd rfl q)
      exact h58 _ hM
    | true =>
      rw [hs] at hb
      refine ⟨Nat.le_of_ble_eq_true rfl, rfl, ?_⟩; (conv => whnf); obtain ⟨_, hc, now, snap, rows, r, buf, rd, D, H, R, rfl, hr⟩ := hb; have hM := CR_of hr; refine Or.inl ⟨_, _, hc, ?_⟩; (conv => whnf)
      refine b1 1 rfl (by omega) (fun (q : 1 = 0) => by omega) (fun _ => ?_); (conv => whnf)
      have e0 := dT_0 hok h0 hs
      refine b1 (dT A.1.1) rfl (by omega) (fun (q : ¬ dT A.1.1 = 0) => absurd e0 q) (fun _ => ?_); (conv => whnf)
      refine ⟨Nat.le_of_ble_eq_true rfl, rfl, ?_⟩; (conv => whnf); obtain ⟨_, hc, now, snap, rows, r, buf, rd, D, H, R, rfl, hr⟩ := t_crossed (d := d) hM; have hM := CR_of hr; refine Or.inl ⟨_, _, hc, ?_⟩; (conv => whnf)
      refine b2 36 36 (by rw [sum_br hs]; exact pk_sub (Nat.zero_le 36)) rfl (by omega) (by omega) (fun (q : ¬ 36 = 36) => absurd rfl q) (fun _ => ?_); (conv => whnf)
      exact h58 _ hM
  refine ⟨Nat.le_of_ble_eq_true rfl, rfl, ?_⟩; (conv => whnf); obtain ⟨_, hc, now, snap, rows, r, buf, rd, D, H, R, rfl, hr⟩ := t_deals (d := d) hM; have hM := CR_of hr; refine Or.inl ⟨_, _, hc, ?_⟩; (conv => whnf)
  refine ⟨Nat.le_of_ble_eq_true rfl, rfl, ?_⟩; (conv => whnf); obtain ⟨_, hc, now, snap, rows, r, buf, rd, D, H, R, rfl, hr⟩ := t_hands (d := d) hM; have hM := CR_of hr; refine Or.inl ⟨_, _, hc, ?_⟩; (conv => whnf)
  refine b2 (dT A.1.1) (dT A.1.1) rfl rfl (by omega) (by omega) (fun (q : ¬ _ = _) => absurd rfl q) (fun _ => ?_); (conv => whnf)
  refine b1 (dT A.1.1) rfl (by omega) (fun (q : dT A.1.1 < 0) => by omega) (fun _ => ?_); (conv => whnf)
  refine b2 (dT A.1.1) 2430 rfl rfl (by omega) (by omega) (fun (q : 2430 < dT A.1.1) => by omega) (fun _ => ?_); (conv => whnf)
  refine ⟨Nat.le_of_ble_eq_true rfl, rfl, ?_⟩; (conv => whnf); obtain ⟨_, hc, now, snap, rows, r, buf, rd, D, H, R, rfl, hr⟩ := t_clues (d := d) hM; have hM := CR_of hr; refine Or.inl ⟨_, _, hc, ?_⟩; (conv => whnf)
  refine b1 A.1.1.length rfl (by omega) (fun (q : 0 < A.1.1.length) => ?_) (fun (q : ¬ 0 < A.1.1.length) => ?_)
  · exact h38 _ hM
  · (conv => whnf)
    have e1 : A.1.1 = [] := List.length_eq_zero_iff.mp (by omega)
    refine b2 (dT A.1.1) 2430 rfl rfl (by omega) (by omega) (fun (q : ¬ dT A.1.1 = 2430) => absurd (by rw [e1]; exact dT_nil) q) (fun _ => ?_); (conv => whnf)
    exact h38 _ hM
end HOLDS
