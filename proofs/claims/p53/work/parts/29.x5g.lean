/-! the class: looks at the state, undo, the snapshot, the buffer, exchanges -/
def clG (a : SA) (k : Nat) : rl_C := a.1.getD k (0, 0, 0)
def agG (a : SA) (k : Nat) : Bool := agN (clG a k) (hq a.2.1 (clG a k).2.1 &&& (clG a k).2.2)
def swp (q : NA) (c o : Nat) : NA := fun j => if j = c then q o else if j = o then q c else q j
def spUndo (A : AS) : Res × AS := match A.2.2.1.getLast? with
  | some a => (rV (nI (A.2.2.1.length - 1)), (a, A.2.1, A.2.2.1.dropLast, A.2.2.2))
  | none => (.inr 1, A)
def spKeep (A : AS) : Res × AS := (rV (nI A.1.1.length), (A.1, some A.1, A.2.2))
def spRestore (A : AS) : Res × AS := match A.2.1 with
  | some a => (rV (nI a.1.length), chg A a)
  | none => (.inr 1, A)
def spSaved (A : AS) : Res × AS := (rV (nI A.2.2.1.length), A)
def spStopped (A : AS) : Res × AS := (rV (bI (!Nat.beq A.1.2.2.2 0)), A)
def spPart (A : AS) : Res × AS := if A.1.2.2.2 = 0 then (.inr 1, A) else (rV (nI A.1.2.2.1), A)
def spWhy (A : AS) : Res × AS := if A.1.2.2.2 = 0 then (.inr 1, A) else (rV (nI A.1.2.2.2), A)
def spPlace (A : AS) (x : Int32) : Res × AS := match decN x 9 with
  | some c => (rV (nI (A.1.2.1 c)), A)
  | none => (.inr 0, A)
def spEnv (A : AS) : Res × AS := (rV (nI (ntr (hq A.1.2.1 3) 9)), A)
def spClues (A : AS) : Res × AS := (rV (nI A.1.1.length), A)
def plI (x : rl_C) : Int32 := if x.2.1 = 3 then cst (-1) else nI x.2.1
def spOf (A : AS) (x : Int32) (f : Nat → Int32) : Res × AS := match decN x A.1.1.length with
  | some k => (rV (f k), A)
  | none => (.inr 0, A)
def spUntrue (A : AS) : Res × AS := (rV (nI (cntN (fun k => !agG A.1 k) A.1.1.length)), A)
def spAppend (A : AS) (x : Int32) : Res × AS := match dec2 x 33 127 with
  | some c => if A.2.2.2.length < 60 then (rV (nI (A.2.2.2.length + 1)), (A.1, A.2.1, A.2.2.1, A.2.2.2 ++ [c])) else (.inr 1, A)
  | none => (.inr 2, A)
def spClear (A : AS) : Res × AS := (rV (nI A.2.2.2.length), (A.1, A.2.1, A.2.2.1, []))
def spExch (A : AS) (x y : Int32) : Res × AS := match decN x 9, decN y 9 with
  | some c, some o => if itr (hq (swp A.1.2.1 c o) 3) 3 = true then (rV (nI (ntr (hq (swp A.1.2.1 c o) 3) 9)), chg A (A.1.1, swp A.1.2.1 c o, A.1.2.2)) else (.inr 1, A)
  | _, _ => (.inr 0, A)
theorem exN_hq {q : NA} {c o p : Nat} (hc : c < 9) (ho : o < 9) : exN (hq q p) c o = hq (swp q c o) p := by
  apply Nat.eq_of_testBit_eq
  intro i
  by_cases hi : i < 9
  · rw [hq_bit _ _ hi]
    unfold exN swp
    rw [hq_bit _ _ hc, hq_bit _ _ ho]
    cases hb : (Nat.beq (q c) p == Nat.beq (q o) p) with
    | true =>
      have hb := eq_of_beq hb
      show (hq q p).testBit i = _
      rw [hq_bit _ _ hi]
      by_cases h1 : i = c
      · rw [if_pos h1, h1]; exact hb
      · rw [if_neg h1]
        by_cases h2 : i = o
        · rw [if_pos h2, h2]; exact hb.symm
        · rw [if_neg h2]
    | false =>
      show (hq q p ^^^ 2 ^ c ^^^ 2 ^ o).testBit i = _
      rw [Nat.testBit_xor, Nat.testBit_xor, hq_bit _ _ hi, Nat.testBit_two_pow, Nat.testBit_two_pow]
      have hne : ¬ c = o := fun e => by rw [e] at hb; simp at hb
      by_cases h1 : i = c
      · rw [if_pos h1, h1, decide_eq_true rfl, decide_eq_false (fun z : o = c => hne z.symm)]
        revert hb
        cases Nat.beq (q c) p <;> cases Nat.beq (q o) p <;> decide
      · rw [if_neg h1, decide_eq_false (fun z => h1 z.symm)]
        by_cases h2 : i = o
        · rw [if_pos h2, h2, decide_eq_true rfl]
          revert hb
          cases Nat.beq (q c) p <;> cases Nat.beq (q o) p <;> decide
        · rw [if_neg h2, decide_eq_false (fun z => h2 z.symm), Bool.xor_false, Bool.xor_false]
  · have h9 : ∀ x, x < 512 → x.testBit i = false := fun x hx => Nat.testBit_lt_two_pow (Nat.lt_of_lt_of_le hx (Nat.pow_le_pow_right (n := 2) (i := 9) (by decide) (by omega)))
    rw [h9 _ (exN_lt (hq_lt q p) hc ho), h9 _ (hq_lt _ _)]
section X5G
variable {d : Nat} {M : Mem} {A : AS} {dl kd pl cd : IA} {cnt prt why : Int32} {snap : StR} {rows : Nat → StR} {sv : Nat → Option Nat} {buf : IA} {rd : RS} {D : DC} {H : HC} {R : RC} {sc hs ln : Int32}
theorem clG_at {a : SA} {k : Nat} (hk : k < a.1.length) : a.1[k]? = some (clG a k) := by
  unfold clG
  rw [List.getD_eq_getElem?_getD, List.getElem?_eq_getElem hk]; rfl
theorem clG_ok {a : SA} (h : okA a) {k : Nat} (hk : k < a.1.length) : clOK (clG a k) := h.2.1 _ (List.mem_of_getElem? (clG_at hk))
theorem a_agrees {a : SA} {now : StR} (h : stR now a) {k : Nat} (hk : k < a.1.length) : Cl (d + 1) kX3_agrees [.ref 1, .int (nI k), .ref 2] (cM now snap rows sv buf rd D H R sc hs ln) (.inl (some (.int (bI (agG a k))))) (cM now snap rows sv buf rd D H R sc hs ln) := by
  have hok := clG_ok h.2.2.2.2.2 hk
  have hl := h.2.2.2.2.2.1
  exact Cl_rd [1, 3, 4, 5, 2, 2] (s_agrees (kd := now.2.1) (pl := now.2.2.1) (cd := now.2.2.2.1) (cnt := now.2.2.2.2.1) (prt := now.2.2.2.2.2.1) (why := now.2.2.2.2.2.2) (so := now.1) (by omega) (h.1 k _ (clG_at hk)) ⟨hok.1.1, hok.1.2.1, hok.1.2.2.1⟩ (h.2.2.1 _ hok.1.2.1) (hq_lt _ _)) 5 rfl rfl ⟨rfl, rfl, rfl, rfl, rfl, trivial⟩
theorem c_undo (hM : CR M A) : ∃ M', Cl (d + 2) kX5_undo [.ref 0] M (spUndo A).1 M' ∧ CR M' (spUndo A).2 := by
  have hM0 := hM
  obtain ⟨now, snap, rows, r, buf, rd, D, H, R, rfl, h1, h2, h3, h4, h5, h6, h7, h8, h9, h10⟩ := hM
  unfold spUndo
  cases hl : A.2.2.1.getLast? with
  | none =>
    have he : A.2.2.1 = [] := List.getLast?_eq_none_iff.mp hl
    refine ⟨_, ?_, hM0⟩
    unfold cMA
    rw [he]
    exact x_undo (d := d + 1)
  | some a =>
    have hne : A.2.2.1 ≠ [] := fun e => by rw [e] at hl; cases hl
    obtain ⟨n, hn⟩ : ∃ n, A.2.2.1.length = n + 1 := ⟨A.2.2.1.length - 1, by have := List.length_pos_iff.mpr hne; omega⟩
    have ha : A.2.2.1[n]? = some a := by
      rw [List.getLast?_eq_getElem?, hn] at hl; exact hl
    have hsa := h5 n a ha
    refine ⟨cM (cpyS now (rows ((n + r) % 5))) snap rows (svF r) buf rd (D0 D) (H0c H) (R0c R) (nI n) (bI A.2.1.isSome) (nI A.2.2.2.length), ?_, ?_⟩
    · unfold cMA
      rw [hn]
      exact s_undoX (by omega)
    · have hdl : A.2.2.1.dropLast.length = n := by rw [List.length_dropLast, hn]; rfl
      refine ⟨cpyS now (rows ((n + r) % 5)), snap, rows, r, buf, rd, D0 D, H0c H, R0c R, ?_, h1, stR_cpy hsa, h3, ?_, fun j b hj => ?_, h6, h7, Or.inl rfl, Or.inl rfl, Or.inl rfl⟩
      · unfold cMA
        show _ = cM _ snap rows (svF r) buf rd _ _ _ (nI A.2.2.1.dropLast.length) _ _
        rw [hdl]
      · show A.2.2.1.dropLast.length ≤ 5
        omega
      · have hj : A.2.2.1.dropLast[j]? = some b := hj
        have hjn : j < n := by have := (List.getElem?_eq_some_iff.mp hj).1; omega
        rw [List.getElem?_dropLast, if_pos (by omega)] at hj
        exact h5 j b hj
theorem c_savedStates (hM : CR M A) : ∃ M', Cl (d + 1) kX5_savedStates [.ref 0] M (spSaved A).1 M' ∧ CR M' (spSaved A).2 := by
  have hM0 := hM
  obtain ⟨now, snap, rows, r, buf, rd, D, H, R, rfl, h⟩ := hM
  refine ⟨_, ?_, hM0⟩
  refine Cl_go e_X5_savedStates (Nat.le_of_ble_eq_true rfl) rfl ?_; intro P hP; refine hP _ _ _ _ ?_; (conv => whnf)
  exact ⟨rfl, ⟨.int, rfl, rfl⟩, rfl, rfl⟩
theorem s_hasStopped {now : StR} {w : Nat} (h : now.2.2.2.2.2.2 = nI w) (hw : w < 3) : Cl (d + 1) kX5_hasStopped [.ref 0] (cM now snap rows sv buf rd D H R sc hs ln) (rV (bI (!Nat.beq w 0))) (cM now snap rows sv buf rd D H R sc hs ln) := by
  refine Cl_go e_X5_hasStopped (Nat.le_of_ble_eq_true rfl) rfl ?_; intro P hP; refine hP _ _ _ _ ?_; (conv => whnf)
  refine b1 w h (by omega) (fun (q : w = 0) => ?_) (fun (q : ¬ w = 0) => ?_)
  · refine hP _ _ _ _ ?_; (conv => whnf)
    refine hP _ _ _ _ ?_; (conv => whnf)
    exact ⟨rfl, ⟨.boolean, rfl, rfl⟩, rI (by rw [nbt q]; rfl), rfl⟩
  · (conv => whnf)
    refine hP _ _ _ _ ?_; (conv => whnf)
    exact ⟨rfl, ⟨.boolean, rfl, rfl⟩, rI (by rw [nbf q]; rfl), rfl⟩
theorem c_hasStopped (hM : CR M A) : ∃ M', Cl (d + 1) kX5_hasStopped [.ref 0] M (spStopped A).1 M' ∧ CR M' (spStopped A).2 := by
  have hM0 := hM
  obtain ⟨now, snap, rows, r, buf, rd, D, H, R, rfl, h⟩ := hM
  exact ⟨_, s_hasStopped h.2.1.2.2.2.2.1 h.2.1.2.2.2.2.2.2.2.2.2, hM0⟩
theorem c_stoppedPart (hM : CR M A) : ∃ M', Cl (d + 2) kX5_stoppedPart [.ref 0] M (spPart A).1 M' ∧ CR M' (spPart A).2 := by
  have hM0 := hM
  obtain ⟨now, snap, rows, r, buf, rd, D, H, R, rfl, h⟩ := hM
  have hw := h.2.1.2.2.2.2.1
  have hw3 := h.2.1.2.2.2.2.2.2.2.2.2
  unfold spPart
  by_cases h0 : A.1.2.2.2 = 0
  · rw [if_pos h0]
    rw [h0] at hw
    refine ⟨_, ?_, hM0⟩
    refine Cl_go e_X5_stoppedPart (Nat.le_of_ble_eq_true rfl) rfl ?_; intro P hP; refine hP _ _ _ _ ?_; (conv => whnf)
    refine ⟨Nat.le_of_ble_eq_true rfl, rfl, ?_⟩; (conv => whnf)
    exact Or.inr ⟨1, _, x_checkStopped (d := d) hw, rfl, rfl⟩
  · rw [if_neg h0]
    refine ⟨_, ?_, hM0⟩
    refine Cl_go e_X5_stoppedPart (Nat.le_of_ble_eq_true rfl) rfl ?_; intro P hP; refine hP _ _ _ _ ?_; (conv => whnf)
    refine ⟨Nat.le_of_ble_eq_true rfl, rfl, ?_⟩; (conv => whnf)
    refine Or.inl ⟨_, _, s_checkStopped (d := d) hw (by omega) hw3, ?_⟩; (conv => whnf)
    exact ⟨rfl, ⟨.int, rfl, rfl⟩, rI (h.2.1.2.2.2.1), rfl⟩
theorem c_whyStopped (hM : CR M A) : ∃ M', Cl (d + 2) kX5_whyStopped [.ref 0] M (spWhy A).1 M' ∧ CR M' (spWhy A).2 := by
  have hM0 := hM
  obtain ⟨now, snap, rows, r, buf, rd, D, H, R, rfl, h⟩ := hM
  have hw := h.2.1.2.2.2.2.1
  have hw3 := h.2.1.2.2.2.2.2.2.2.2.2
  unfold spWhy
  by_cases h0 : A.1.2.2.2 = 0
  · rw [if_pos h0]
    rw [h0] at hw
    refine ⟨_, ?_, hM0⟩
    refine Cl_go e_X5_whyStopped (Nat.le_of_ble_eq_true rfl) rfl ?_; intro P hP; refine hP _ _ _ _ ?_; (conv => whnf)
    refine ⟨Nat.le_of_ble_eq_true rfl, rfl, ?_⟩; (conv => whnf)
    exact Or.inr ⟨1, _, x_checkStopped (d := d) hw, rfl, rfl⟩
  · rw [if_neg h0]
    refine ⟨_, ?_, hM0⟩
    refine Cl_go e_X5_whyStopped (Nat.le_of_ble_eq_true rfl) rfl ?_; intro P hP; refine hP _ _ _ _ ?_; (conv => whnf)
    refine ⟨Nat.le_of_ble_eq_true rfl, rfl, ?_⟩; (conv => whnf)
    refine Or.inl ⟨_, _, s_checkStopped (d := d) hw (by omega) hw3, ?_⟩; (conv => whnf)
    exact ⟨rfl, ⟨.int, rfl, rfl⟩, rI (hw), rfl⟩
theorem s_truePlace {now : StR} {a : SA} (h : stR now a) {c : Nat} (hc : c < 9) : Cl (d + 2) kX5_truePlace [.ref 0, .int (nI c)] (cM now snap rows sv buf rd D H R sc hs ln) (rV (nI (a.2.1 c))) (cM now snap rows sv buf rd D H R sc hs ln) := by
  have hq4 := h.2.2.2.2.2.2.2.1.1 c hc
  refine Cl_go e_X5_truePlace (Nat.le_of_ble_eq_true rfl) rfl ?_; intro P hP; refine hP _ _ _ _ ?_; (conv => whnf)
  refine ⟨Nat.le_of_ble_eq_true rfl, rfl, ?_⟩; (conv => whnf)
  refine Or.inl ⟨_, _, Cl_s (s_checkCard hc), ?_⟩; (conv => whnf)
  refine ⟨Nat.le_of_ble_eq_true rfl, rfl, ?_⟩; (conv => whnf)
  refine Or.inl ⟨_, _, Cl_rd [1, 2, 3, 4, 5] (s_placeOf (d := d) (dl := now.1) (kd := now.2.1) (pl := now.2.2.1) (cd := now.2.2.2.1) (cnt := now.2.2.2.2.1) (prt := now.2.2.2.2.2.1) (why := now.2.2.2.2.2.2) (h := hq a.2.1) hc hq4 (fun i hi => ⟨h.2.2.1 i hi, hq_lt _ _⟩) (by rw [hq_bit _ _ hc]; exact nbt rfl) (fun i hi => by rw [hq_bit _ _ hc]; exact nbf (by omega))) 5 rfl rfl ⟨rfl, rfl, rfl, rfl, rfl, trivial⟩, ?_⟩; (conv => whnf)
  exact ⟨rfl, ⟨.int, rfl, rfl⟩, rfl, rfl⟩
theorem c_truePlace (hM : CR M A) (x : Int32) : ∃ M', Cl (d + 2) kX5_truePlace [.ref 0, .int x] M (spPlace A x).1 M' ∧ CR M' (spPlace A x).2 := by
  have hM0 := hM
  obtain ⟨now, snap, rows, r, buf, rd, D, H, R, rfl, h⟩ := hM
  unfold spPlace
  rcases in_out x (n := 9) (by decide) with hx | ⟨c, hc, rfl⟩
  · rw [decN_out hx]
    refine ⟨_, ?_, hM0⟩
    refine Cl_go e_X5_truePlace (Nat.le_of_ble_eq_true rfl) rfl ?_; intro P hP; refine hP _ _ _ _ ?_; (conv => whnf)
    refine ⟨Nat.le_of_ble_eq_true rfl, rfl, ?_⟩
    exact Or.inr ⟨0, _, Cl_s (x_checkCard hx), rfl, rfl⟩
  · rw [decN_in hc (by decide)]
    exact ⟨_, s_truePlace h.2.1 hc, hM0⟩
theorem s_trueEnvelope {now : StR} {a : SA} (h : stR now a) : Cl (d + 2) kX5_trueEnvelope [.ref 0] (cM now snap rows sv buf rd D H R sc hs ln) (rV (nI (ntr (hq a.2.1 3) 9))) (cM now snap rows sv buf rd D H R sc hs ln) := by
  have e3 := h.2.2.1 3 (by decide)
  refine Cl_go e_X5_trueEnvelope (Nat.le_of_ble_eq_true rfl) rfl ?_; intro P hP; refine hP _ _ _ _ ?_; (conv => whnf)
  refine ⟨vi (n := 3) rfl (by decide) (by decide), ?_⟩; (conv => whnf)
  refine ⟨Nat.le_of_ble_eq_true rfl, rfl, ?_⟩; (conv => whnf)
  have hk : ∀ N : Mem, Cl (d + 1) kX5_numberOfTriple [.int (now.1 (cst 3).toNatClampNeg)] N (.inl (some (.int (nI (ntr (hq a.2.1 3) 9))))) N := fun N => by
    rw [show (cst 3).toNatClampNeg = 3 from rfl, e3]; exact Cl_s (s_numberOfTriple (hq_lt _ _))
  refine Or.inl ⟨_, _, hk _, ?_⟩; (conv => whnf)
  exact ⟨rfl, ⟨.int, rfl, rfl⟩, rfl, rfl⟩
theorem c_trueEnvelope (hM : CR M A) : ∃ M', Cl (d + 2) kX5_trueEnvelope [.ref 0] M (spEnv A).1 M' ∧ CR M' (spEnv A).2 := by
  have hM0 := hM
  obtain ⟨now, snap, rows, r, buf, rd, D, H, R, rfl, h⟩ := hM
  exact ⟨_, s_trueEnvelope h.2.1, hM0⟩
theorem c_clues (hM : CR M A) : ∃ M', Cl (d + 1) kX5_clues [.ref 0] M (spClues A).1 M' ∧ CR M' (spClues A).2 := by
  have hM0 := hM
  obtain ⟨now, snap, rows, r, buf, rd, D, H, R, rfl, h⟩ := hM
  refine ⟨_, ?_, hM0⟩
  refine Cl_go e_X5_clues (Nat.le_of_ble_eq_true rfl) rfl ?_; intro P hP; refine hP _ _ _ _ ?_; (conv => whnf)
  exact ⟨rfl, ⟨.int, rfl, rfl⟩, rI (h.2.1.2.1), rfl⟩
theorem s_kindOf {now : StR} {a : SA} (h : stR now a) {k : Nat} (hk : k < a.1.length) : Cl (d + 2) kX5_kindOf [.ref 0, .int (nI k)] (cM now snap rows sv buf rd D H R sc hs ln) (rV (nI (clG a k).1)) (cM now snap rows sv buf rd D H R sc hs ln) := by
  have hl := h.2.2.2.2.2.1
  refine Cl_go e_X5_kindOf (Nat.le_of_ble_eq_true rfl) rfl ?_; intro P hP; refine hP _ _ _ _ ?_; (conv => whnf)
  refine ⟨Nat.le_of_ble_eq_true rfl, rfl, ?_⟩; (conv => whnf)
  refine Or.inl ⟨_, _, s_checkClue (d := d) (n := a.1.length) h.2.1 hl hk, ?_⟩; (conv => whnf)
  refine ⟨vi rfl (show k < 20 by omega) (by decide), ?_⟩; (conv => whnf)
  exact ⟨rfl, ⟨.int, rfl, rfl⟩, rI (by rw [nI_clamp (by omega)]; exact (h.1 k _ (clG_at hk)).1), rfl⟩
theorem s_playerOf {now : StR} {a : SA} (h : stR now a) {k : Nat} (hk : k < a.1.length) : Cl (d + 2) kX5_playerOf [.ref 0, .int (nI k)] (cM now snap rows sv buf rd D H R sc hs ln) (rV (plI (clG a k))) (cM now snap rows sv buf rd D H R sc hs ln) := by
  have hl := h.2.2.2.2.2.1
  have hp4 := (clG_ok h.2.2.2.2.2 hk).1.2.1
  have e : now.2.2.1 (nI k).toNatClampNeg = nI (clG a k).2.1 := by rw [nI_clamp (by omega)]; exact (h.1 k _ (clG_at hk)).2.1
  refine Cl_go e_X5_playerOf (Nat.le_of_ble_eq_true rfl) rfl ?_; intro P hP; refine hP _ _ _ _ ?_; (conv => whnf)
  refine ⟨Nat.le_of_ble_eq_true rfl, rfl, ?_⟩; (conv => whnf)
  refine Or.inl ⟨_, _, s_checkClue (d := d) (n := a.1.length) h.2.1 hl hk, ?_⟩; (conv => whnf)
  refine ⟨vi rfl (show k < 20 by omega) (by decide), ?_⟩; (conv => whnf)
  refine b2 _ 3 e rfl (by omega) (by omega) (fun (q : ¬ (clG a k).2.1 = 3) => ?_) (fun (q : ¬ ¬ (clG a k).2.1 = 3) => ?_)
  · refine hP _ _ _ _ ?_; (conv => whnf)
    refine ⟨vi rfl (show k < 20 by omega) (by decide), ?_⟩; (conv => whnf)
    refine hP _ _ _ _ ?_; (conv => whnf)
    exact ⟨rfl, ⟨.int, rfl, rfl⟩, rI (by rw [e]; exact (if_neg q).symm), rfl⟩
  · (conv => whnf)
    refine hP _ _ _ _ ?_; (conv => whnf)
    exact ⟨rfl, ⟨.int, rfl, rfl⟩, rI ((if_pos (Decidable.of_not_not q)).symm), rfl⟩
theorem s_cardsOf {now : StR} {a : SA} (h : stR now a) {k : Nat} (hk : k < a.1.length) : Cl (d + 2) kX5_cardsOf [.ref 0, .int (nI k)] (cM now snap rows sv buf rd D H R sc hs ln) (rV (nI (clG a k).2.2)) (cM now snap rows sv buf rd D H R sc hs ln) := by
  have hl := h.2.2.2.2.2.1
  refine Cl_go e_X5_cardsOf (Nat.le_of_ble_eq_true rfl) rfl ?_; intro P hP; refine hP _ _ _ _ ?_; (conv => whnf)
  refine ⟨Nat.le_of_ble_eq_true rfl, rfl, ?_⟩; (conv => whnf)
  refine Or.inl ⟨_, _, s_checkClue (d := d) (n := a.1.length) h.2.1 hl hk, ?_⟩; (conv => whnf)
  refine ⟨vi rfl (show k < 20 by omega) (by decide), ?_⟩; (conv => whnf)
  exact ⟨rfl, ⟨.int, rfl, rfl⟩, rI (by rw [nI_clamp (by omega)]; exact (h.1 k _ (clG_at hk)).2.2), rfl⟩
theorem s_untrue {now : StR} {a : SA} (h : stR now a) : Cl (d + 2) kX5_untrueClues [.ref 0] (cM now snap rows sv buf rd D H R sc hs ln) (rV (nI (cntN (fun k => !agG a k) a.1.length))) (cM now snap rows sv buf rd D H R sc hs ln) := by
  have hl := h.2.2.2.2.2.1
  refine Cl_go e_X5_untrueClues (Nat.le_of_ble_eq_true rfl) rfl ?_; intro P hP; refine hP _ _ _ _ ?_; (conv => whnf)
  have lp : ∀ (j i : Nat) (b x : Int32), x = nI i → i + j = a.1.length → b = nI (cntN (fun k => !agG a k) i) → P 4 [some (.ref 0), some (.int b), some (.int x)] [] (cM now snap rows sv buf rd D H R sc hs ln) := by
    intro j
    induction j with
    | zero =>
      intro i b x hx hi hb
      have hi : i = a.1.length := hi
      refine hP _ _ _ _ ?_; (conv => whnf)
      refine b2 i a.1.length hx h.2.1 (by omega) (by omega) (fun _ => ?_) (fun (q : ¬ a.1.length ≤ i) => by omega)
      refine hP _ _ _ _ ?_; (conv => whnf)
      exact ⟨rfl, ⟨.int, rfl, rfl⟩, rI (by rw [hb, hi]), rfl⟩
    | succ j ih =>
      intro i b x hx hi hb
      subst hx
      have hk : i < a.1.length := by omega
      refine hP _ _ _ _ ?_; (conv => whnf)
      refine b2 i a.1.length rfl h.2.1 (by omega) (by omega) (fun (q : a.1.length ≤ i) => by omega) (fun _ => ?_); (conv => whnf)
      refine ⟨Nat.le_of_ble_eq_true rfl, rfl, ?_⟩; (conv => whnf)
      refine Or.inl ⟨_, _, a_agrees (d := d + 0) h hk, ?_⟩; (conv => whnf)
      cases hg : agG a i with
      | true =>
        refine b1 1 rfl (by omega) (fun (q : 1 = 0) => by omega) (fun _ => ?_); (conv => whnf)
        refine hP _ _ _ _ ?_; (conv => whnf)
        refine ih (i + 1) _ _ (nI_1 i) (by omega) ?_
        rw [hb]; exact cntN_f (by show (!agG a i) = false; rw [hg]; rfl)
      | false =>
        refine b1 0 rfl (by omega) (fun _ => ?_) (fun (q : ¬ 0 = 0) => by omega)
        refine hP _ _ _ _ ?_; (conv => whnf)
        refine hP _ _ _ _ ?_; (conv => whnf)
        refine ih (i + 1) _ _ (nI_1 i) (by omega) ?_
        rw [hb]; exact cntN_t (by show (!agG a i) = true; rw [hg]; rfl)
  exact lp a.1.length 0 _ _ rfl (by omega) rfl
theorem c_untrue (hM : CR M A) : ∃ M', Cl (d + 2) kX5_untrueClues [.ref 0] M (spUntrue A).1 M' ∧ CR M' (spUntrue A).2 := by
  have hM0 := hM
  obtain ⟨now, snap, rows, r, buf, rd, D, H, R, rfl, h⟩ := hM
  exact ⟨_, s_untrue h.2.1, hM0⟩
theorem c_kindOf (hM : CR M A) (x : Int32) : ∃ M', Cl (d + 2) kX5_kindOf [.ref 0, .int x] M (spOf A x (fun k => nI (clG A.1 k).1)).1 M' ∧ CR M' (spOf A x (fun k => nI (clG A.1 k).1)).2 := by
  have hM0 := hM
  obtain ⟨now, snap, rows, r, buf, rd, D, H, R, rfl, h⟩ := hM
  have hl := h.2.1.2.2.2.2.2.1
  unfold spOf
  rcases in_out x (n := A.1.1.length) (by omega) with hx | ⟨k, hk, rfl⟩
  · rw [decN_out hx]
    refine ⟨_, ?_, hM0⟩
    refine Cl_go e_X5_kindOf (Nat.le_of_ble_eq_true rfl) rfl ?_; intro P hP; refine hP _ _ _ _ ?_; (conv => whnf)
    refine ⟨Nat.le_of_ble_eq_true rfl, rfl, ?_⟩; (conv => whnf)
    exact Or.inr ⟨0, _, x_checkClue (d := d) (n := A.1.1.length) h.2.1.2.1 hx, rfl, rfl⟩
  · rw [decN_in hk (by omega)]
    exact ⟨_, s_kindOf h.2.1 hk, hM0⟩
theorem c_playerOf (hM : CR M A) (x : Int32) : ∃ M', Cl (d + 2) kX5_playerOf [.ref 0, .int x] M (spOf A x (fun k => plI (clG A.1 k))).1 M' ∧ CR M' (spOf A x (fun k => plI (clG A.1 k))).2 := by
  have hM0 := hM
  obtain ⟨now, snap, rows, r, buf, rd, D, H, R, rfl, h⟩ := hM
  have hl := h.2.1.2.2.2.2.2.1
  unfold spOf
  rcases in_out x (n := A.1.1.length) (by omega) with hx | ⟨k, hk, rfl⟩
  · rw [decN_out hx]
    refine ⟨_, ?_, hM0⟩
    refine Cl_go e_X5_playerOf (Nat.le_of_ble_eq_true rfl) rfl ?_; intro P hP; refine hP _ _ _ _ ?_; (conv => whnf)
    refine ⟨Nat.le_of_ble_eq_true rfl, rfl, ?_⟩; (conv => whnf)
    exact Or.inr ⟨0, _, x_checkClue (d := d) (n := A.1.1.length) h.2.1.2.1 hx, rfl, rfl⟩
  · rw [decN_in hk (by omega)]
    exact ⟨_, s_playerOf h.2.1 hk, hM0⟩
theorem c_cardsOf (hM : CR M A) (x : Int32) : ∃ M', Cl (d + 2) kX5_cardsOf [.ref 0, .int x] M (spOf A x (fun k => nI (clG A.1 k).2.2)).1 M' ∧ CR M' (spOf A x (fun k => nI (clG A.1 k).2.2)).2 := by
  have hM0 := hM
  obtain ⟨now, snap, rows, r, buf, rd, D, H, R, rfl, h⟩ := hM
  have hl := h.2.1.2.2.2.2.2.1
  unfold spOf
  rcases in_out x (n := A.1.1.length) (by omega) with hx | ⟨k, hk, rfl⟩
  · rw [decN_out hx]
    refine ⟨_, ?_, hM0⟩
    refine Cl_go e_X5_cardsOf (Nat.le_of_ble_eq_true rfl) rfl ?_; intro P hP; refine hP _ _ _ _ ?_; (conv => whnf)
    refine ⟨Nat.le_of_ble_eq_true rfl, rfl, ?_⟩; (conv => whnf)
    exact Or.inr ⟨0, _, x_checkClue (d := d) (n := A.1.1.length) h.2.1.2.1 hx, rfl, rfl⟩
  · rw [decN_in hk (by omega)]
    exact ⟨_, s_cardsOf h.2.1 hk, hM0⟩
end X5G
