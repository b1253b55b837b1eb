/-! the class: looks at counts and sheet, in the class's own cells -/
section KD
variable {d : Nat} {now snap : StR} {rows : Nat → StR} {sv : Nat → Option Nat} {buf : IA} {rd : RS} {D : DC} {H : HC} {R : RC} {sc hs ln : Int32} {cl : List rl_C}
theorem dT31 (cl : List rl_C) : dT cl < 2 ^ 31 := Nat.lt_of_le_of_lt (dT_le cl) (by decide)
theorem ca31 (h : dcOK cl D.1) (j : Nat) (hj : j < 36) : D.1.2.1 j < 2 ^ 31 := by
  have e := h.2.1 (j / 4) (j % 4) (by omega) (by omega)
  rw [show 4 * (j / 4) + j % 4 = j by omega] at e
  rw [e]; exact Nat.lt_of_le_of_lt (dCA_le _ _ _) (dT31 cl)
theorem ie31 (h : dcOK cl D.1) (j : Nat) (hj : j < 27) : D.1.2.2.1 j < 2 ^ 31 := by
  rw [h.2.2.1 j hj]; exact Nat.lt_of_le_of_lt (dIE_le _ _) (dT31 cl)
theorem wn_eq (h : dcOK cl D.1) {p t : Nat} (hp : p < 3) : wnS D.1.2.2.2.1 p t = wnN cl p t := wnS_val hp (fun s hs => h.2.2.2.1 p s hp hs)
theorem k_withCardAt (h : dcOK cl D.1) {c p : Nat} (hc : c < 9) (hp : p < 4) : Cl (d + 1) kX0_withCardAt [.ref 39, .int (nI c), .int (nI p)] (cM now snap rows sv buf rd D H R sc hs ln) (rV (nI (dCA cl c p))) (cM now snap rows sv buf rd D H R sc hs ln) := by
  have hT : D.1.1 = dT cl := h.1
  rw [← h.2.1 c p hc hp]
  exact Cl_rd [39, 40, 41, 42, 43, 44] (s_withCardAt (T := D.1.1) (fr := D.2.1) (ca := D.1.2.1) (ie := D.1.2.2.1) (wh := D.1.2.2.2.1) (hb := D.1.2.2.2.2) (so := D.2.2) hc hp) 6 rfl rfl ⟨rfl, rfl, rfl, rfl, rfl, rfl, trivial⟩
theorem k_surePlace (h : dcOK cl D.1) {c : Nat} (hc : c < 9) : Cl (d + 2) kX0_surePlace [.ref 39, .int (nI c)] (cM now snap rows sv buf rd D H R sc hs ln) (rV (splG (dT cl) (dCA cl c) 4 0)) (cM now snap rows sv buf rd D H R sc hs ln) := by
  have hT : D.1.1 = dT cl := h.1
  rw [← hT, ← splG_congr (f := fun p => D.1.2.1 (4 * c + p)) 4 0 (fun p _ hp => h.2.1 c p hc (by omega))]
  exact Cl_rd [39, 40, 41, 42, 43, 44] (s_surePlace (T := D.1.1) (fr := D.2.1) (ca := D.1.2.1) (ie := D.1.2.2.1) (wh := D.1.2.2.2.1) (hb := D.1.2.2.2.2) (so := D.2.2) hc (by rw [hT]; exact dT31 cl) (fun p hp => ca31 h _ (by omega))) 6 rfl rfl ⟨rfl, rfl, rfl, rfl, rfl, rfl, trivial⟩
theorem k_sureCards (h : dcOK cl D.1) : Cl (d + 3) kX0_sureCards [.ref 39] (cM now snap rows sv buf rd D H R sc hs ln) (rV (nI (cntN (fun c => spB (dT cl) (dCA cl c)) 9))) (cM now snap rows sv buf rd D H R sc hs ln) := by
  have hT : D.1.1 = dT cl := h.1
  rw [← hT, ← cntN_congr (p := fun c => spB D.1.1 (fun p => D.1.2.1 (4 * c + p))) (fun c hc => spB_congr (fun p hp => h.2.1 c p hc hp))]
  exact Cl_rd [39, 40, 41, 42, 43, 44] (s_sureCards (T := D.1.1) (fr := D.2.1) (ca := D.1.2.1) (ie := D.1.2.2.1) (wh := D.1.2.2.2.1) (hb := D.1.2.2.2.2) (so := D.2.2) (by rw [hT]; exact dT31 cl) (fun j hj => ca31 h j hj)) 6 rfl rfl ⟨rfl, rfl, rfl, rfl, rfl, rfl, trivial⟩
theorem k_placesLeft (h : dcOK cl D.1) : Cl (d + 1) kX0_placesLeft [.ref 39] (cM now snap rows sv buf rd D H R sc hs ln) (rV (nI (cntN (fun j => Nat.blt 0 (dCA cl (j / 4) (j % 4))) 36))) (cM now snap rows sv buf rd D H R sc hs ln) := by
  have hT : D.1.1 = dT cl := h.1
  rw [← cntN_congr (p := fun j => Nat.blt 0 (D.1.2.1 j)) (fun j hj => by
    have e := h.2.1 (j / 4) (j % 4) (by omega) (by omega)
    rw [show 4 * (j / 4) + j % 4 = j by omega] at e
    show Nat.blt 0 (D.1.2.1 j) = _
    rw [e])]
  exact Cl_rd [39, 40, 41, 42, 43, 44] (s_placesLeft (T := D.1.1) (fr := D.2.1) (ca := D.1.2.1) (ie := D.1.2.2.1) (wh := D.1.2.2.2.1) (hb := D.1.2.2.2.2) (so := D.2.2) (fun j hj => ca31 h j hj)) 6 rfl rfl ⟨rfl, rfl, rfl, rfl, rfl, rfl, trivial⟩
theorem k_withEnvelope (h : dcOK cl D.1) {t : Nat} (ht : t < 27) : Cl (d + 1) kX0_withEnvelope [.ref 39, .int (nI t)] (cM now snap rows sv buf rd D H R sc hs ln) (rV (nI (dIE cl t))) (cM now snap rows sv buf rd D H R sc hs ln) := by
  have hT : D.1.1 = dT cl := h.1
  rw [← h.2.2.1 t ht]
  exact Cl_rd [39, 40, 41, 42, 43, 44] (s_withEnvelope (T := D.1.1) (fr := D.2.1) (ca := D.1.2.1) (ie := D.1.2.2.1) (wh := D.1.2.2.2.1) (hb := D.1.2.2.2.2) (so := D.2.2) ht) 6 rfl rfl ⟨rfl, rfl, rfl, rfl, rfl, rfl, trivial⟩
theorem k_envelopesLeft (h : dcOK cl D.1) : Cl (d + 1) kX0_envelopesLeft [.ref 39] (cM now snap rows sv buf rd D H R sc hs ln) (rV (nI (cntN (fun t => Nat.blt 0 (dIE cl t)) 27))) (cM now snap rows sv buf rd D H R sc hs ln) := by
  have hT : D.1.1 = dT cl := h.1
  rw [← cntN_congr (p := fun j => Nat.blt 0 (D.1.2.2.1 j)) (fun j hj => by show Nat.blt 0 (D.1.2.2.1 j) = _; rw [h.2.2.1 j hj])]
  exact Cl_rd [39, 40, 41, 42, 43, 44] (s_envelopesLeft (T := D.1.1) (fr := D.2.1) (ca := D.1.2.1) (ie := D.1.2.2.1) (wh := D.1.2.2.2.1) (hb := D.1.2.2.2.2) (so := D.2.2) (fun j hj => ie31 h j hj)) 6 rfl rfl ⟨rfl, rfl, rfl, rfl, rfl, rfl, trivial⟩
theorem k_likeliestEnvelope (h : dcOK cl D.1) : Cl (d + 2) kX0_likeliestEnvelope [.ref 39] (cM now snap rows sv buf rd D H R sc hs ln) (rV (nI (amx (dIE cl) 26))) (cM now snap rows sv buf rd D H R sc hs ln) := by
  have hT : D.1.1 = dT cl := h.1
  rw [← amx_congr (f := D.1.2.2.1) 26 (fun i hi => h.2.2.1 i (by omega))]
  exact Cl_rd [39, 40, 41, 42, 43, 44] (s_likeliestEnvelope (T := D.1.1) (fr := D.2.1) (ca := D.1.2.1) (ie := D.1.2.2.1) (wh := D.1.2.2.2.1) (hb := D.1.2.2.2.2) (so := D.2.2) (fun j hj => ie31 h j hj)) 6 rfl rfl ⟨rfl, rfl, rfl, rfl, rfl, rfl, trivial⟩
theorem k_withNone (h : dcOK cl D.1) {p t : Nat} (hp : p < 3) (ht : t < 27) : Cl (d + 3) kX0_withNone [.ref 39, .int (nI p), .int (nI t)] (cM now snap rows sv buf rd D H R sc hs ln) (rV (nI (wnN cl p t))) (cM now snap rows sv buf rd D H R sc hs ln) := by
  have hT : D.1.1 = dT cl := h.1
  rw [← wn_eq h hp]
  exact Cl_rd [39, 40, 41, 42, 43, 44] (s_withNone (T := D.1.1) (fr := D.2.1) (ca := D.1.2.1) (ie := D.1.2.2.1) (wh := D.1.2.2.2.1) (hb := D.1.2.2.2.2) (so := D.2.2) hp ht) 6 rfl rfl ⟨rfl, rfl, rfl, rfl, rfl, rfl, trivial⟩
theorem k_behindQuestion (h : dcOK cl D.1) {p t : Nat} (hp : p < 3) (ht : t < 27) : Cl (d + 4) kX0_behindQuestion [.ref 39, .int (nI p), .int (nI t)] (cM now snap rows sv buf rd D H R sc hs ln) (rV (nI (lvs (dT cl) (wnN cl p t)))) (cM now snap rows sv buf rd D H R sc hs ln) := by
  have hT : D.1.1 = dT cl := h.1
  rw [← wn_eq h hp, ← hT]
  exact Cl_rd [39, 40, 41, 42, 43, 44] (s_behindQuestion (T := D.1.1) (fr := D.2.1) (ca := D.1.2.1) (ie := D.1.2.2.1) (wh := D.1.2.2.2.1) (hb := D.1.2.2.2.2) (so := D.2.2) hp ht (by rw [wn_eq h hp, hT]; exact wnN_le _ _ _) (by rw [hT]; exact dT31 cl)) 6 rfl rfl ⟨rfl, rfl, rfl, rfl, rfl, rfl, trivial⟩
theorem k_sharpestQuestion (h : dcOK cl D.1) {p : Nat} (hp : p < 3) : Cl (d + 5) kX0_sharpestQuestion [.ref 39, .int (nI p)] (cM now snap rows sv buf rd D H R sc hs ln) (rV (nI (amn (fun t => lvs (dT cl) (wnN cl p t)) 26))) (cM now snap rows sv buf rd D H R sc hs ln) := by
  have hT : D.1.1 = dT cl := h.1
  rw [← hT, ← amn_congr (f := fun t => lvs D.1.1 (wnS D.1.2.2.2.1 p t)) 26 (fun t ht => by show lvs _ _ = lvs _ _; rw [wn_eq h hp])]
  exact Cl_rd [39, 40, 41, 42, 43, 44] (s_sharpestQuestion (T := D.1.1) (fr := D.2.1) (ca := D.1.2.1) (ie := D.1.2.2.1) (wh := D.1.2.2.2.1) (hb := D.1.2.2.2.2) (so := D.2.2) hp (fun t ht => by rw [wn_eq h hp, hT]; exact wnN_le _ _ _) (by rw [hT]; exact dT31 cl)) 6 rfl rfl ⟨rfl, rfl, rfl, rfl, rfl, rfl, trivial⟩
theorem k_withoutClue (h : dcOK cl D.1) {k : Nat} (hk : k < 20) : Cl (d + 1) kX0_withoutClue [.ref 39, .int (nI k)] (cM now snap rows sv buf rd D H R sc hs ln) (rV (nI (dT cl + dHB cl k))) (cM now snap rows sv buf rd D H R sc hs ln) := by
  have hT : D.1.1 = dT cl := h.1
  rw [← h.2.2.2.2 k hk, ← hT]
  exact Cl_rd [39, 40, 41, 42, 43, 44] (s_withoutClue (T := D.1.1) (fr := D.2.1) (ca := D.1.2.1) (ie := D.1.2.2.1) (wh := D.1.2.2.2.1) (hb := D.1.2.2.2.2) (so := D.2.2) hk) 6 rfl rfl ⟨rfl, rfl, rfl, rfl, rfl, rfl, trivial⟩
theorem k_idleAmong (h : dcOK cl D.1) {n : Nat} (hn : n ≤ 20) : Cl (d + 2) kX0_idleAmong [.ref 39, .int (nI n)] (cM now snap rows sv buf rd D H R sc hs ln) (rV (nI (cntN (fun k => Nat.beq (dT cl + dHB cl k) (dT cl)) n))) (cM now snap rows sv buf rd D H R sc hs ln) := by
  have hT : D.1.1 = dT cl := h.1
  rw [← hT, ← cntN_congr (p := fun k => Nat.beq (D.1.1 + D.1.2.2.2.2 k) D.1.1) (fun k hk => by show Nat.beq (_ + D.1.2.2.2.2 k) _ = _; rw [h.2.2.2.2 k (by omega)])]
  exact Cl_rd [39, 40, 41, 42, 43, 44] (s_idleAmong (T := D.1.1) (fr := D.2.1) (ca := D.1.2.1) (ie := D.1.2.2.1) (wh := D.1.2.2.2.1) (hb := D.1.2.2.2.2) (so := D.2.2) hn (fun k hk => by rw [hT, h.2.2.2.2 k hk]; have h1 := dT_le cl; have h2 := dHB_le cl k; omega)) 6 rfl rfl ⟨rfl, rfl, rfl, rfl, rfl, rfl, trivial⟩
end KD
/-! the sheet's own end -/
def rlV (cl : List rl_C) : rl_V := itF (rl_C1 cl) 37 (fun _ => 15)
theorem rlV_E {cl : List rl_C} (hok : ∀ x ∈ cl, rl_cok x) : rlE cl (rlV cl) := by
  have htop : rl_rch cl (fun _ => 15) := rl_rch_top cl (fun c hc => rfl)
  obtain ⟨k, k1, k2, -, k4⟩ := fix_ex (C1_shr cl).2 htop.1
  have hokI := itF_ok (fun v hv => ((C1_shr cl).2 v hv).1) htop.1
  obtain ⟨kk, rfl⟩ : ∃ kk, k = kk + 1 := ⟨k - 1, by omega⟩
  obtain ⟨f1, f2⟩ := C1_fx (hokI kk) k4
  have hst : ∀ n, itF (rl_C1 cl) (kk + n) (fun _ => 15) = itF (rl_C1 cl) kk (fun _ => 15) := by
    intro n
    induction n with
    | zero => rfl
    | succ n ih =>
      show rl_C1 cl (itF (rl_C1 cl) (kk + n) (fun _ => 15)) = _
      rw [ih, f2]
  have e : rlV cl = itF (rl_C1 cl) kk (fun _ => 15) := by
    unfold rlV
    have h := hst (37 - kk)
    rwa [show kk + (37 - kk) = 37 by omega] at h
  rw [e]
  exact ⟨itF_rch (rl_C1_good hok) htop kk, f1⟩
/-- the places by rules: none, if they break down -/
def shB (cl : List rl_C) : Bool := brk cl (rlV cl)
def shW (cl : List rl_C) : NA := bif shB cl then fun _ => 0 else rlV cl
theorem rlE_same {cl : List rl_C} (hok : ∀ x ∈ cl, rl_cok x) {v : rl_V} (h : rlE cl v) : brk cl v = shB cl ∧ ∀ c, c < 9 → (bif brk cl v then set9 0 v else v) c = shW cl c := by
  have h2 := rlV_E hok
  obtain ⟨m1, m2⟩ := rl_meet hok h.1 h2.1 h.2 h2.2
  have e : brk cl v = shB cl := by
    unfold shB
    cases h3 : brk cl v with
    | false => exact ((brk_nb hok _).mpr (m1.mp ((brk_nb hok v).mp h3))).symm
    | true =>
      cases h4 : brk cl (rlV cl) with
      | true => rfl
      | false =>
        have := (brk_nb hok v).mpr (m1.mpr ((brk_nb hok _).mp h4))
        rw [this] at h3; cases h3
  refine ⟨e, fun c hc => ?_⟩
  unfold shW
  rw [e]
  cases h3 : shB cl with
  | true => exact if_pos hc
  | false =>
    rw [h3] at e
    exact m2 ((brk_nb hok v).mp e) c hc
theorem shW_ok {cl : List rl_C} (hok : ∀ x ∈ cl, rl_cok x) : rl_ok (shW cl) := by
  intro c hc
  unfold shW
  cases shB cl with
  | true => show 0 < 16; decide
  | false => exact (rlV_E hok).1.1 c hc
theorem rl_sum_congr {v w : rl_V} : ∀ n, (∀ c, c < n → v c = w c) → rl_sum n v = rl_sum n w := by
  intro n
  induction n with
  | zero => intro _; rfl
  | succ n ih => intro h; show rl_sum n v + rl_pc (v n) = rl_sum n w + rl_pc (w n); rw [ih (fun c hc => h c (by omega)), h n (by omega)]
section KR
variable {d : Nat} {now snap : StR} {rows : Nat → StR} {sv : Nat → Option Nat} {buf : IA} {rd : RS} {D : DC} {H : HC} {R : RC} {sc hs ln : Int32} {cl : List rl_C}
/-- what a filled sheet holds -/
def rcW (cl : List rl_C) (R : RC) : Prop := R.1 = bI (shB cl) ∧ rl_ok R.2.2 ∧ ∀ c, c < 9 → R.2.2 c = shW cl c
theorem rcW_of (hok : ∀ x ∈ cl, rl_cok x) (h : rcF cl R) : rcW cl R := by
  obtain ⟨v, h1, h2, h3⟩ := h
  obtain ⟨e1, e2⟩ := rlE_same hok h1
  have e3 : ∀ c, c < 9 → R.2.2 c = shW cl c := fun c hc => by rw [h3]; exact e2 c hc
  exact ⟨by rw [h2, e1], fun c hc => by rw [e3 c hc]; exact shW_ok hok c hc, e3⟩
theorem k_onlyPlace (h : rcW cl R) {c : Nat} (hc : c < 9) : Cl (d + 1) kX2_onlyPlace [.ref 47, .int (nI c)] (cM now snap rows sv buf rd D H R sc hs ln) (rV (oplG (shW cl c) 4 0)) (cM now snap rows sv buf rd D H R sc hs ln) := by
  rw [← h.2.2 c hc]
  exact Cl_rd [47, 48] (s_onlyPlace (br := R.1) (fr := R.2.1) (v := R.2.2) hc h.2.1) 2 rfl rfl ⟨rfl, rfl, trivial⟩
theorem k_left2 (h : rcW cl R) : Cl (d + 2) kX2_placesLeft [.ref 47] (cM now snap rows sv buf rd D H R sc hs ln) (rV (nI (rl_sum 9 (shW cl)))) (cM now snap rows sv buf rd D H R sc hs ln) := by
  rw [← rl_sum_congr 9 h.2.2]
  exact Cl_rd [47, 48] (s_placesLeft2 (br := R.1) (fr := R.2.1) (v := R.2.2) h.2.1) 2 rfl rfl ⟨rfl, rfl, trivial⟩
end KR
