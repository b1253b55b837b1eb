/-! p53: the class's calls, as the law makes them -/
theorem CR_len {M : Mem} {A : AS} (h : CR M A) : M.length = 49 := by
  obtain ⟨now, snap, rows, r, buf, rd, D, H, R, rfl, -⟩ := h
  rfl
theorem CR_okA {M : Mem} {A : AS} (h : CR M A) : okA A.1 := by
  obtain ⟨now, snap, rows, r, buf, rd, D, H, R, rfl, h⟩ := h
  exact h.2.1.2.2.2.2.2
theorem CR_sv {M : Mem} {A : AS} (h : CR M A) : A.2.2.1.length ≤ 5 := by
  obtain ⟨now, snap, rows, r, buf, rd, D, H, R, rfl, h⟩ := h
  exact h.2.2.2.1
abbrev rJ (v : Int64) : Res := .inl (some (.long v))
abbrev rD (v : UInt64) : Res := .inl (some (.double v))
abbrev cl9 (d k : Nat) (av : List Value) (M : Mem) (r : Res) (A : AS) : Prop := ∃ M', Cl (d + 15) k av M r M' ∧ CR M' A
section TL
variable {d : Nat} {M : Mem} {A : AS}
theorem t_clues (hM : CR M A) : cl9 d kX5_clues [.ref 0] M (rV (nI A.1.1.length)) A := c_clues (d := d + 14) hM
theorem t_env (hM : CR M A) : cl9 d kX5_trueEnvelope [.ref 0] M (rV (nI (ntr (hq A.1.2.1 3) 9))) A := c_trueEnvelope (d := d + 13) hM
theorem t_place (hM : CR M A) {c : Nat} (hc : c < 9) : cl9 d kX5_truePlace [.ref 0, .int (nI c)] M (rV (nI (A.1.2.1 c))) A := by
  have h := c_truePlace (d := d + 13) hM (nI c)
  unfold spPlace at h
  rwa [decN_in hc (by decide)] at h
theorem t_of (hM : CR M A) {k : Nat} (hk : k < A.1.1.length) : cl9 d kX5_kindOf [.ref 0, .int (nI k)] M (rV (nI (clG A.1 k).1)) A ∧ cl9 d kX5_playerOf [.ref 0, .int (nI k)] M (rV (plI (clG A.1 k))) A ∧ cl9 d kX5_cardsOf [.ref 0, .int (nI k)] M (rV (nI (clG A.1 k).2.2)) A := by
  have h20 := (CR_okA hM).1
  have h1 := c_kindOf (d := d + 13) hM (nI k)
  have h2 := c_playerOf (d := d + 13) hM (nI k)
  have h3 := c_cardsOf (d := d + 13) hM (nI k)
  unfold spOf at h1 h2 h3
  rw [decN_in hk (by omega)] at h1 h2 h3
  exact ⟨h1, h2, h3⟩
theorem t_stopped (hM : CR M A) : cl9 d kX5_hasStopped [.ref 0] M (rV (bI (!Nat.beq A.1.2.2.2 0))) A := c_hasStopped (d := d + 14) hM
theorem t_part (hM : CR M A) (h : ¬ A.1.2.2.2 = 0) : cl9 d kX5_stoppedPart [.ref 0] M (rV (nI A.1.2.2.1)) A := by
  have h1 := c_stoppedPart (d := d + 13) hM
  unfold spPart at h1
  rwa [if_neg h] at h1
theorem t_why (hM : CR M A) (h : ¬ A.1.2.2.2 = 0) : cl9 d kX5_whyStopped [.ref 0] M (rV (nI A.1.2.2.2)) A := by
  have h1 := c_whyStopped (d := d + 13) hM
  unfold spWhy at h1
  rwa [if_neg h] at h1
theorem t_saved (hM : CR M A) : cl9 d kX5_savedStates [.ref 0] M (rV (nI A.2.2.1.length)) A := c_savedStates (d := d + 14) hM
theorem t_untrue (hM : CR M A) : cl9 d kX5_untrueClues [.ref 0] M (rV (nI (cntN (fun k => !agG A.1 k) A.1.1.length))) A := c_untrue (d := d + 13) hM
theorem t_deals (hM : CR M A) : cl9 d kX5_deals [.ref 0] M (rV (nI (dT A.1.1))) A := c_deals (d := d) hM
theorem t_hands (hM : CR M A) : cl9 d kX5_dealsByHands [.ref 0] M (rV (nI (dT A.1.1))) A := c_dealsByHands (d := d + 7) hM
theorem t_with (hM : CR M A) {c p : Nat} (hc : c < 9) (hp : p < 4) : cl9 d kX5_dealsWith [.ref 0, .int (nI c), .int (nI p)] M (rV (nI (dCA A.1.1 c p))) A := by
  have h := c_dealsWith (d := d) hM (nI c) (nI p)
  unfold sp2 at h
  rwa [decN_in hc (by decide), decN_in hp (by decide)] at h
theorem t_sure (hM : CR M A) {c : Nat} (hc : c < 9) : cl9 d kX5_certainPlace [.ref 0, .int (nI c)] M (rV (splG (dT A.1.1) (dCA A.1.1 c) 4 0)) A := by
  have h := c_certainPlace (d := d) hM (nI c)
  unfold sp1 at h
  rwa [decN_in hc (by decide)] at h
theorem t_sures (hM : CR M A) : cl9 d kX5_certainCards [.ref 0] M (rV (nI (cntN (fun c => spB (dT A.1.1) (dCA A.1.1 c)) 9))) A := c_certainCards (d := d) hM
theorem t_broken (hM : CR M A) : cl9 d kX5_isBroken [.ref 0] M (rV (bI (shB A.1.1))) A := c_isBroken (d := d) hM
theorem t_rule (hM : CR M A) {c : Nat} (hc : c < 9) : cl9 d kX5_placeByRules [.ref 0, .int (nI c)] M (rV (oplG (shW A.1.1 c) 4 0)) A := by
  have h := c_placeByRules (d := d) hM (nI c)
  unfold sp1 at h
  rwa [decN_in hc (by decide)] at h
theorem t_crossed (hM : CR M A) : cl9 d kX5_crossedOff [.ref 0] M (rV (nI 36 - nI (rl_sum 9 (shW A.1.1)))) A := c_crossedOff (d := d) hM
theorem t_hidden (hM : CR M A) : cl9 d kX5_hiddenCrosses [.ref 0] M (rV (nI (rl_sum 9 (shW A.1.1)) - nI (cntN (fun j => Nat.blt 0 (dCA A.1.1 (j / 4) (j % 4))) 36))) A := c_hiddenCrosses (d := d) hM
theorem t_envD (hM : CR M A) {t : Nat} (ht : t < 27) : cl9 d kX5_envelopeDeals [.ref 0, .int (nI t)] M (rV (nI (dIE A.1.1 t))) A := by
  have h := c_envelopeDeals (d := d) hM (nI t)
  unfold sp1 at h
  rwa [decN_in ht (by decide)] at h
theorem t_envs (hM : CR M A) : cl9 d kX5_envelopes [.ref 0] M (rV (nI (cntN (fun t => Nat.blt 0 (dIE A.1.1 t)) 27))) A := c_envelopes (d := d) hM
theorem t_solved (hM : CR M A) : cl9 d kX5_isSolved [.ref 0] M (rV (bI (Nat.beq (cntN (fun t => Nat.blt 0 (dIE A.1.1 t)) 27) 1))) A := c_isSolved (d := d) hM
theorem t_bestA (hM : CR M A) (h : ¬ dT A.1.1 = 0) : cl9 d kX5_bestAccusation [.ref 0] M (rV (nI (amx (dIE A.1.1) 26))) A := by
  have h1 := c_bestAccusation (d := d) hM
  unfold spBestA at h1
  rwa [if_neg h] at h1
theorem t_left (hM : CR M A) {p t : Nat} (hp : p < 3) (ht : t < 27) : cl9 d kX5_leftBy [.ref 0, .int (nI p), .int (nI t)] M (rV (nI (lvs (dT A.1.1) (wnN A.1.1 p t)))) A := by
  have h := c_leftBy (d := d) hM (nI p) (nI t)
  unfold sp2 at h
  rwa [decN_in hp (by decide), decN_in ht (by decide)] at h
theorem t_bestQ (hM : CR M A) {p : Nat} (hp : p < 3) (h : ¬ dT A.1.1 = 0) : cl9 d kX5_bestQuestion [.ref 0, .int (nI p)] M (rV (nI (amn (fun t => lvs (dT A.1.1) (wnN A.1.1 p t)) 26))) A := by
  have h1 := c_bestQuestion (d := d) hM (nI p)
  unfold spBestQ at h1
  rw [decN_in hp (by decide)] at h1
  have h1 := h1
  simp only [if_neg h] at h1
  exact h1
theorem t_idle (hM : CR M A) : cl9 d kX5_idleClues [.ref 0] M (rV (nI (cntN (fun k => Nat.beq (dT A.1.1 + dHB A.1.1 k) (dT A.1.1)) A.1.1.length))) A := c_idleClues (d := d) hM
theorem t_chance (hM : CR M A) : cl9 d kX5_chance [.ref 0] M (rD (shX A.1.1)) A := c_chance (d := d) hM
theorem t_undo (hM : CR M A) {a : SA} {l : List SA} (h : A.2.2.1 = l ++ [a]) : cl9 d kX5_undo [.ref 0] M (rV (nI l.length)) (a, A.2.1, l, A.2.2.2) := by
  have h1 := c_undo (d := d + 13) hM
  unfold spUndo at h1
  rw [h, List.getLast?_concat] at h1
  have e : (l ++ [a]).length - 1 = l.length := by rw [List.length_append]; rfl
  simp only [e, List.dropLast_concat] at h1
  exact h1
theorem t_note (hM : CR M A) {p c : Nat} (hp : p < 3) (hc : c < 9) (hn : A.1.1.length < 20) : (∃ x, cl9 d kX5_noteHas [.ref 0, .int (nI p), .int (nI c)] M (rV x) (chg A (A.1.1 ++ [(0, p, 2 ^ c)], A.1.2))) ∧ ∃ x, cl9 d kX5_noteLacks [.ref 0, .int (nI p), .int (nI c)] M (rV x) (chg A (A.1.1 ++ [(1, p, 2 ^ c)], A.1.2)) := by
  have h1 := c_noteHas (d := d + 12) hM (nI p) (nI c)
  have h2 := c_noteLacks (d := d + 12) hM (nI p) (nI c)
  unfold spNote at h1 h2
  rw [decN_in hp (by decide), decN_in hc (by decide)] at h1 h2
  simp only [if_pos hn] at h1 h2
  exact ⟨⟨_, h1⟩, ⟨_, h2⟩⟩
/-- a question's number of a triple -/
def trN (s t r : Nat) : Nat := 9 * s + 3 * (t - 3) + (r - 6)
theorem t_q (hM : CR M A) {p s t r : Nat} (hp : p < 3) (hs : s < 3) (ht : 3 ≤ t ∧ t < 6) (hr : 6 ≤ r ∧ r < 9) (hn : A.1.1.length < 20) :
    (∃ x, cl9 d kX5_noteShows [.ref 0, .int (nI p), .int (nI s), .int (nI t), .int (nI r)] M (rV x) (chg A (A.1.1 ++ [(2, p, dq_mask (trN s t r))], A.1.2))) ∧
    (∃ x, cl9 d kX5_ask [.ref 0, .int (nI p), .int (nI s), .int (nI t), .int (nI r)] M (rV x) (chg A (A.1.1 ++ [(bif Nat.beq (hq A.1.2.1 p &&& dq_mask (trN s t r)) 0 then 3 else 2, p, dq_mask (trN s t r))], A.1.2))) ∧
    (∃ x, cl9 d kX5_look [.ref 0, .int (nI p), .int (nI s), .int (nI t), .int (nI r)] M (rV x) (chg A (A.1.1 ++ [(spSee A p (trN s t r)).2], A.1.2))) ∧
    ∃ x, cl9 d kX5_accuse [.ref 0, .int (nI s), .int (nI t), .int (nI r)] M (rV x) (chg A (A.1.1 ++ [(bif Nat.beq (hq A.1.2.1 3) (dq_mask (trN s t r)) then 5 else 4, 3, dq_mask (trN s t r))], A.1.2)) := by
  have h1 := c_noteShows (d := d + 12) hM (nI p) (nI s) (nI t) (nI r)
  have h2 := c_ask (d := d + 12) hM (nI p) (nI s) (nI t) (nI r)
  have h3 := c_look (d := d + 12) hM (nI p) (nI s) (nI t) (nI r)
  have h4 := c_accuse (d := d + 12) hM (nI s) (nI t) (nI r)
  unfold spShows spQ at h1
  unfold spAsk spQ at h2
  unfold spLook spQ at h3
  unfold spAccuse at h4
  rw [decT_in hs ht hr] at h1 h2 h3 h4
  rw [decN_in hp (by decide)] at h1 h2 h3
  simp only [if_pos hn] at h1 h2 h3 h4
  exact ⟨⟨_, h1⟩, ⟨_, h2⟩, ⟨_, h3⟩, ⟨_, h4⟩⟩
theorem t_drop (hM : CR M A) {k : Nat} (hk : k < A.1.1.length) : ∃ x, cl9 d kX5_dropClue [.ref 0, .int (nI k)] M (rV x) (chg A (A.1.1.eraseIdx k, A.1.2)) := by
  have h20 := (CR_okA hM).1
  have h := c_dropClue (d := d + 12) hM (nI k)
  unfold spDrop at h
  rw [decN_in hk (by omega)] at h
  exact ⟨_, h⟩
theorem t_dropAll (hM : CR M A) : ∃ x, cl9 d kX5_dropAll [.ref 0] M (rV x) (chg A ([], A.1.2)) := ⟨_, c_dropAll (d := d + 12) hM⟩
theorem t_exch (hM : CR M A) {c o : Nat} (hc : c < 9) (ho : o < 9) (h : itr (hq (swp A.1.2.1 c o) 3) 3 = true) : ∃ x, cl9 d kX5_exchange [.ref 0, .int (nI c), .int (nI o)] M (rV x) (chg A (A.1.1, swp A.1.2.1 c o, A.1.2.2)) := by
  have h1 := c_exchange (d := d + 12) hM (nI c) (nI o)
  unfold spExch at h1
  rw [decN_in hc (by decide), decN_in ho (by decide)] at h1
  simp only [if_pos h] at h1
  exact ⟨_, h1⟩
end TL
