/-! what a parlour is, in numbers; the class's cells hold one -/
def hq (q : NA) (p : Nat) : Nat := mkP (fun c => Nat.beq (q c) p) 9
def clOK (x : rl_C) : Prop := rl_cok x ∧ (x.1 < 4 → x.2.1 < 3) ∧ (4 ≤ x.1 → x.2.1 = 3)
/-- clues, the master's places, the stop's part and its reason (0: none) -/
abbrev SA : Type := List rl_C × (NA × (Nat × Nat))
/-- now, the snapshot, the saved states (the oldest first), the text -/
abbrev AS : Type := SA × (Option SA × (List SA × List Nat))
def okQ (q : NA) : Prop := (∀ c, c < 9 → q c < 4) ∧ itr (hq q 3) 3 = true
def okA (a : SA) : Prop := a.1.length ≤ 20 ∧ (∀ x ∈ a.1, clOK x) ∧ okQ a.2.1 ∧ a.2.2.1 < 100 ∧ a.2.2.2 < 3
def stR (s : StR) (a : SA) : Prop := clM a.1 s.2.1 s.2.2.1 s.2.2.2.1 ∧ s.2.2.2.2.1 = nI a.1.length ∧ (∀ p, p < 4 → s.1 p = nI (hq a.2.1 p)) ∧ s.2.2.2.2.2.1 = nI a.2.2.1 ∧ s.2.2.2.2.2.2 = nI a.2.2.2 ∧ okA a
theorem hq_lt (q : NA) (p : Nat) : hq q p < 512 := mkP9 _
theorem hq_bit (q : NA) (p : Nat) {c : Nat} (hc : c < 9) : (hq q p).testBit c = Nat.beq (q c) p := by
  unfold hq
  rw [mkP_bit, decide_eq_true hc, Bool.true_and]
theorem stR_C {s : StR} {a : SA} (h : stR s a) : stC s a.1 := ⟨h.1, h.2.1, h.2.2.2.2.2.1, fun x hx => (h.2.2.2.2.2.2.1 x hx).1⟩
theorem clM_cpy {cl : List rl_C} (hn : cl.length ≤ 20) {kd pl cd kd2 pl2 cd2 : IA} (h : clM cl kd2 pl2 cd2) : clM cl (cpy 20 kd kd2) (cpy 20 pl pl2) (cpy 20 cd cd2) := by
  intro i x hx
  have hi : i < 20 := Nat.lt_of_lt_of_le (List.getElem?_eq_some_iff.mp hx).1 hn
  unfold cpy
  rw [if_pos hi, if_pos hi, if_pos hi]
  exact h i x hx
theorem stR_cpy {s t : StR} {a : SA} (h : stR t a) : stR (cpyS s t) a := by
  obtain ⟨h1, h2, h3, h4, h5, h6⟩ := h
  exact ⟨clM_cpy h6.1 h1, h2, fun p hp => by
    show cpy 4 s.1 t.1 p = _
    unfold cpy; rw [if_pos hp]; exact h3 p hp, h4, h5, h6⟩
def svA (A : AS) : List SA := if A.2.2.1.length < 5 then A.2.2.1 ++ [A.1] else A.2.2.1.drop 1 ++ [A.1]
def chg (A : AS) (a : SA) : AS := (a, A.2.1, svA A, A.2.2.2)
def txR (buf : IA) (t : List Nat) : Prop := t.length ≤ 60 ∧ ∀ (j c : Nat), t[j]? = some c → buf j = nI c ∧ 33 ≤ c ∧ c ≤ 126
def CRr (A : AS) (now snap : StR) (rows : Nat → StR) (r : Nat) (buf : IA) (rd : RS) (D : DC) (H : HC) (R : RC) : Prop :=
  r < 5 ∧ stR now A.1 ∧ (∀ a, A.2.1 = some a → stR snap a) ∧ A.2.2.1.length ≤ 5 ∧ (∀ (j : Nat) (a : SA), A.2.2.1[j]? = some a → stR (rows ((j + r) % 5)) a) ∧ txR buf A.2.2.2 ∧ rd.1 < 2 ^ 31 ∧ dcV A.1.1 D ∧ hcV A.1.1 H ∧ rcV A.1.1 R
def cMA (A : AS) (now snap : StR) (rows : Nat → StR) (r : Nat) (buf : IA) (rd : RS) (D : DC) (H : HC) (R : RC) : Mem :=
  cM now snap rows (svF r) buf rd D H R (nI A.2.2.1.length) (bI A.2.1.isSome) (nI A.2.2.2.length)
/-- the class's cells hold the parlour A -/
def CR (M : Mem) (A : AS) : Prop := ∃ now snap rows r buf rd D H R, M = cMA A now snap rows r buf rd D H R ∧ CRr A now snap rows r buf rd D H R
theorem svA_len (A : AS) (h : A.2.2.1.length ≤ 5) : (svA A).length = svN A.2.2.1.length := by
  unfold svA svN
  by_cases h5 : A.2.2.1.length < 5
  · rw [if_pos h5, if_pos h5, List.length_append]; rfl
  · rw [if_neg h5, if_neg h5, List.length_append, List.length_drop]
    show A.2.2.1.length - 1 + 1 = 5
    omega
theorem sv_rel {A : AS} {now : StR} {rows : Nat → StR} {r : Nat} (hr : r < 5) (hnow : stR now A.1) (hn : A.2.2.1.length ≤ 5) (h : ∀ (j : Nat) (a : SA), A.2.2.1[j]? = some a → stR (rows ((j + r) % 5)) a) :
    ∀ (j : Nat) (a : SA), (svA A)[j]? = some a → stR (rowsU rows (svI A.2.2.1.length r) (cpyS (rows (svI A.2.2.1.length r)) now) ((j + svR A.2.2.1.length r) % 5)) a := by
  intro j a hj
  unfold svA at hj
  unfold svI svR rowsU
  by_cases h5 : A.2.2.1.length < 5
  · rw [if_pos h5] at hj
    rw [if_pos h5, if_pos h5]
    by_cases hjl : j < A.2.2.1.length
    · rw [List.getElem?_append_left hjl] at hj
      rw [if_neg (by omega)]
      exact h j a hj
    · rw [List.getElem?_append_right (by omega)] at hj
      have hj0 : j - A.2.2.1.length = 0 := by
        by_cases h0 : j - A.2.2.1.length = 0
        · exact h0
        · obtain ⟨k, hk⟩ : ∃ k, j - A.2.2.1.length = k + 1 := ⟨j - A.2.2.1.length - 1, by omega⟩
          rw [hk] at hj; cases hj
      rw [hj0] at hj
      have ha : A.1 = a := Option.some.inj hj
      have hjn : j = A.2.2.1.length := by omega
      rw [hjn, if_pos rfl, ← ha]
      exact stR_cpy hnow
  · rw [if_neg h5] at hj
    rw [if_neg h5, if_neg h5]
    have hl : (A.2.2.1.drop 1).length = 4 := by rw [List.length_drop]; omega
    by_cases hjl : j < 4
    · rw [List.getElem?_append_left (by omega), List.getElem?_drop] at hj
      rw [if_neg (by omega)]
      have h1 := h (1 + j) a hj
      rw [show (j + (r + 1) % 5) % 5 = (1 + j + r) % 5 by omega]
      exact h1
    · rw [List.getElem?_append_right (by omega), hl] at hj
      have hj0 : j - 4 = 0 := by
        by_cases h0 : j - 4 = 0
        · exact h0
        · obtain ⟨k, hk⟩ : ∃ k, j - 4 = k + 1 := ⟨j - 4 - 1, by omega⟩
          rw [hk] at hj; cases hj
      rw [hj0] at hj
      have ha : A.1 = a := Option.some.inj hj
      rw [if_pos (by omega), ← ha]
      exact stR_cpy hnow
/-- a change of the state behind remember -/
theorem CR_chg {A : AS} {now snap : StR} {rows : Nat → StR} {r : Nat} {buf : IA} {rd : RS} {D : DC} {H : HC} {R : RC} (h : CRr A now snap rows r buf rd D H R) {now' : StR} {a' : SA} (h' : stR now' a') :
    CR (cM now' snap (rowsU rows (svI A.2.2.1.length r) (cpyS (rows (svI A.2.2.1.length r)) now)) (svF (svR A.2.2.1.length r)) buf rd (D0 D) (H0c H) (R0c R) (nI (svN A.2.2.1.length)) (bI A.2.1.isSome) (nI A.2.2.2.length)) (chg A a') := by
  obtain ⟨h1, h2, h3, h4, h5, h6, h7, h8, h9, h10⟩ := h
  refine ⟨now', snap, _, svR A.2.2.1.length r, buf, rd, D0 D, H0c H, R0c R, ?_, ?_, h', h3, ?_, sv_rel h1 h2 h4 h5, h6, h7, Or.inl rfl, Or.inl rfl, Or.inl rfl⟩
  · unfold cMA
    show cM now' snap _ _ buf rd _ _ _ _ _ _ = cM now' snap _ _ buf rd _ _ _ (nI (svA A).length) _ _
    rw [svA_len A h4]; rfl
  · unfold svR; split <;> omega
  · show (svA A).length ≤ 5
    rw [svA_len A h4]
    unfold svN; split <;> omega
/-- one clue more -/
theorem stR_add {s : StR} {a : SA} (h : stR s a) (hn : a.1.length < 20) {x : rl_C} (hx : clOK x) : stR (s.1, upd s.2.1 a.1.length (nI x.1), upd s.2.2.1 a.1.length (nI x.2.1), upd s.2.2.2.1 a.1.length (nI x.2.2), nI (a.1.length + 1), s.2.2.2.2.2) (a.1 ++ [x], a.2) := by
  obtain ⟨h1, h2, h3, h4, h5, h6⟩ := h
  refine ⟨clM_add h1 x, ?_, h3, h4, h5, ?_, ?_, h6.2.2⟩
  · show nI (a.1.length + 1) = nI (a.1 ++ [x]).length
    rw [List.length_append]; rfl
  · show (a.1 ++ [x]).length ≤ 20
    rw [List.length_append]; show a.1.length + 1 ≤ 20; omega
  · intro y hy
    rcases List.mem_append.mp hy with e | e
    · exact h6.2.1 y e
    · rcases List.mem_cons.mp e with e | e
      · rw [e]; exact hx
      · cases e
theorem stR_rmv {s : StR} {a : SA} (h : stR s a) {k : Nat} (hk : k < a.1.length) : stR (s.1, rmv k a.1.length s.2.1, rmv k a.1.length s.2.2.1, rmv k a.1.length s.2.2.2.1, nI (a.1.length - 1), s.2.2.2.2.2) (a.1.eraseIdx k, a.2) := by
  obtain ⟨h1, h2, h3, h4, h5, h6⟩ := h
  have hl : (a.1.eraseIdx k).length = a.1.length - 1 := by rw [List.length_eraseIdx, if_pos hk]
  refine ⟨clM_rmv h1 hk, by rw [hl], h3, h4, h5, ?_, ?_, h6.2.2⟩
  · rw [hl]; have := h6.1; omega
  · intro y hy
    exact h6.2.1 y (List.mem_of_mem_eraseIdx hy)
theorem bit_lt9 {c : Nat} (hc : c < 9) : 2 ^ c < 512 := Nat.pow_lt_pow_right (by decide) hc
theorem mask_cnt_all : (List.range 27).all (fun t => Nat.beq ((List.range 9).countP (fun c => (dq_mask t).testBit c)) 3) = true := by decide +kernel
theorem clOK_0 {k p c : Nat} (hk : k = 0 ∨ k = 1) (hp : p < 3) (hc : c < 9) : clOK (k, p, 2 ^ c) :=
  ⟨⟨by show k < 6; omega, by show p < 4; omega, bit_lt9 hc, fun (h : k = 4) => by omega⟩, fun _ => hp, fun (h : 4 ≤ k) => by omega⟩
theorem clOK_t {k p t : Nat} (hk : k = 2 ∨ k = 3) (hp : p < 3) (ht : t < 27) : clOK (k, p, dq_mask t) :=
  ⟨⟨by show k < 6; omega, by show p < 4; omega, mask_lt ht, fun (h : k = 4) => by omega⟩, fun _ => hp, fun (h : 4 ≤ k) => by omega⟩
theorem clOK_e {k t : Nat} (hk : k = 4 ∨ k = 5) (ht : t < 27) : clOK (k, 3, dq_mask t) :=
  ⟨⟨by show k < 6; omega, by show 3 < 4; omega, mask_lt ht, fun _ => Nat.eq_of_beq_eq_true (List.all_eq_true.mp mask_cnt_all t (List.mem_range.mpr ht))⟩, fun (h : k < 4) => by omega, fun _ => rfl⟩
section M26
variable {d : Nat} {now snap : StR} {rows : Nat → StR} {sv : Nat → Option Nat} {buf : IA} {rd : RS} {D : DC} {H : HC} {R : RC} {sc hs ln : Int32}
theorem s_checkRoom {n : Nat} (h : now.2.2.2.2.1 = nI n) (hn : n < 20) : Cl (d + 1) kX5_checkRoomForClue [.ref 0] (cM now snap rows sv buf rd D H R sc hs ln) (.inl none) (cM now snap rows sv buf rd D H R sc hs ln) := by
  refine Cl_go e_X5_checkRoomForClue (Nat.le_of_ble_eq_true rfl) rfl ?_; intro P hP; refine hP _ _ _ _ ?_; (conv => whnf)
  refine b2 n 20 h rfl (by omega) (by omega) (fun _ => ?_) (fun (q : ¬ n < 20) => by omega)
  refine hP _ _ _ _ ?_; (conv => whnf)
  exact ⟨rfl, rfl, rfl, rfl⟩
theorem x_checkRoom {n : Nat} (h : now.2.2.2.2.1 = nI n) (hn : n = 20) : Cl (d + 1) kX5_checkRoomForClue [.ref 0] (cM now snap rows sv buf rd D H R sc hs ln) (.inr 1) (cM now snap rows sv buf rd D H R sc hs ln) := by
  refine Cl_go e_X5_checkRoomForClue (Nat.le_of_ble_eq_true rfl) rfl ?_; intro P hP; refine hP _ _ _ _ ?_; (conv => whnf)
  refine b2 n 20 h rfl (by omega) (by omega) (fun (q : n < 20) => by omega) (fun _ => ?_); (conv => whnf)
  exact ⟨rfl, rfl⟩
theorem s_checkClue {n k : Nat} (h : now.2.2.2.2.1 = nI n) (hn : n ≤ 20) (hk : k < n) : Cl (d + 1) kX5_checkClue [.ref 0, .int (nI k)] (cM now snap rows sv buf rd D H R sc hs ln) (.inl none) (cM now snap rows sv buf rd D H R sc hs ln) := by
  refine Cl_go e_X5_checkClue (Nat.le_of_ble_eq_true rfl) rfl ?_; intro P hP; refine hP _ _ _ _ ?_; (conv => whnf)
  refine b1 k rfl (by omega) (fun (q : k < 0) => by omega) (fun _ => ?_); (conv => whnf)
  refine b2 k n rfl h (by omega) (by omega) (fun (q : n ≤ k) => by omega) (fun _ => ?_); (conv => whnf)
  refine b2 k 20 rfl rfl (by omega) (by omega) (fun _ => ?_) (fun (q : ¬ k < 20) => by omega)
  refine hP _ _ _ _ ?_; (conv => whnf)
  exact ⟨rfl, rfl, rfl, rfl⟩
theorem x_checkClue {n : Nat} {x : Int32} (h : now.2.2.2.2.1 = nI n) (hx : out x n) : Cl (d + 1) kX5_checkClue [.ref 0, .int x] (cM now snap rows sv buf rd D H R sc hs ln) (.inr 0) (cM now snap rows sv buf rd D H R sc hs ln) := by
  refine Cl_go e_X5_checkClue (Nat.le_of_ble_eq_true rfl) rfl ?_; intro P hP; refine hP _ _ _ _ ?_; (conv => whnf)
  refine out_lt hx (fun _ => ?_) (fun _ q => ?_)
  · refine hP _ _ _ _ ?_; (conv => whnf)
    exact ⟨rfl, rfl⟩
  · (conv => whnf)
    refine ⟨fun _ => ?_, fun z => absurd (show cnd2 .ge x now.2.2.2.2.1 by rw [h]; exact q) z⟩
    refine hP _ _ _ _ ?_; (conv => whnf)
    exact ⟨rfl, rfl⟩
theorem s_checkStopped {w : Nat} (h : now.2.2.2.2.2.2 = nI w) (h0 : 0 < w) (hw : w < 3) : Cl (d + 1) kX5_checkStopped [.ref 0] (cM now snap rows sv buf rd D H R sc hs ln) (.inl none) (cM now snap rows sv buf rd D H R sc hs ln) := by
  refine Cl_go e_X5_checkStopped (Nat.le_of_ble_eq_true rfl) rfl ?_; intro P hP; refine hP _ _ _ _ ?_; (conv => whnf)
  refine b1 w h (by omega) (fun _ => ?_) (fun (q : ¬ ¬ w = 0) => by omega)
  refine hP _ _ _ _ ?_; (conv => whnf)
  exact ⟨rfl, rfl, rfl, rfl⟩
theorem x_checkStopped (h : now.2.2.2.2.2.2 = nI 0) : Cl (d + 1) kX5_checkStopped [.ref 0] (cM now snap rows sv buf rd D H R sc hs ln) (.inr 1) (cM now snap rows sv buf rd D H R sc hs ln) := by
  refine Cl_go e_X5_checkStopped (Nat.le_of_ble_eq_true rfl) rfl ?_; intro P hP; refine hP _ _ _ _ ?_; (conv => whnf)
  refine b1 0 h (by omega) (fun (q : ¬ 0 = 0) => by omega) (fun _ => ?_); (conv => whnf)
  exact ⟨rfl, rfl⟩
end M26
