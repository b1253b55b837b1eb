/-! the class: clues noted, asked for, dropped -/
def decN (x : Int32) (n : Nat) : Option Nat := if x < 0 then none else if nI n ≤ x then none else some x.toNatClampNeg
def dec2 (x : Int32) (a b : Nat) : Option Nat := if x < nI a then none else if nI b ≤ x then none else some x.toNatClampNeg
def decT (s t r : Int32) : Option Nat := match decN s 3, dec2 t 3 6, dec2 r 6 9 with
  | some a, some b, some c => some (9 * a + 3 * (b - 3) + (c - 6))
  | _, _, _ => none
theorem decN_out {x : Int32} {n : Nat} (h : out x n) : decN x n = none := by
  unfold decN
  rcases h with h | h
  · rw [if_pos h]
  · by_cases h0 : x < 0
    · rw [if_pos h0]
    · rw [if_neg h0, if_pos h]
theorem decN_in {j n : Nat} (h : j < n) (hn : n < 2 ^ 31) : decN (nI j) n = some j := by
  unfold decN
  rw [if_neg (nI_pos (by omega)), if_neg (nI_ge h hn), nI_clamp (by omega)]
theorem dec2_in {j a b : Nat} (h : a ≤ j ∧ j < b) (hb : b < 2 ^ 31) : dec2 (nI j) a b = some j := by
  unfold dec2
  rw [if_neg (nI_nlt h.1 (by omega)), if_neg (nI_ge h.2 hb), nI_clamp (by omega)]
theorem decT_in {a b c : Nat} (ha : a < 3) (hb : 3 ≤ b ∧ b < 6) (hc : 6 ≤ c ∧ c < 9) : decT (nI a) (nI b) (nI c) = some (9 * a + 3 * (b - 3) + (c - 6)) := by
  unfold decT
  rw [decN_in ha (by decide), dec2_in hb (by decide), dec2_in hc (by decide)]
theorem decT_bad {s t r : Int32} (h : badC s t r) : decT s t r = none := by
  unfold decT
  have d2 : ∀ {x : Int32} {a b : Nat}, (x < nI a ∨ nI b ≤ x) → dec2 x a b = none := by
    intro x a b h
    unfold dec2
    rcases h with h | h
    · rw [if_pos h]
    · by_cases h0 : x < nI a
      · rw [if_pos h0]
      · rw [if_neg h0, if_pos h]
  rcases h with h | h | h
  · rw [decN_out h]
  · rw [d2 h]; cases decN s 3 <;> rfl
  · rw [d2 h]; cases decN s 3 <;> cases dec2 t 3 6 <;> rfl
abbrev rV (x : Int32) : Res := .inl (some (.int x))
def spNote (k : Nat) (A : AS) (x y : Int32) : Res × AS := match decN x 3, decN y 9 with
  | some p, some c => if A.1.1.length < 20 then (rV (nI (A.1.1.length + 1)), chg A (A.1.1 ++ [(k, p, 2 ^ c)], A.1.2)) else (.inr 1, A)
  | _, _ => (.inr 0, A)
/-- what a question adds: t: the triple -/
def spQ (A : AS) (x s t r : Int32) (f : Nat → Nat → Int32 × rl_C) : Res × AS := match decN x 3, decT s t r with
  | some p, some t => if A.1.1.length < 20 then (rV (f p t).1, chg A (A.1.1 ++ [(f p t).2], A.1.2)) else (.inr 1, A)
  | _, _ => (.inr 0, A)
def spShows (A : AS) (x s t r : Int32) : Res × AS := spQ A x s t r (fun p t => (nI (A.1.1.length + 1), (2, p, dq_mask t)))
def spAsk (A : AS) (x s t r : Int32) : Res × AS := spQ A x s t r (fun p t => (bI (!Nat.beq (hq A.1.2.1 p &&& dq_mask t) 0), (bif Nat.beq (hq A.1.2.1 p &&& dq_mask t) 0 then 3 else 2, p, dq_mask t)))
/-- the lowest card of a set -/
def lowC (x : Nat) : Nat := (List.range 9).findIdx (fun c => x.testBit c)
def spSee (A : AS) (p t : Nat) : Int32 × rl_C := bif Nat.beq (hq A.1.2.1 p &&& dq_mask t) 0 then (cst (-1), (3, p, dq_mask t)) else (nI (lowC (hq A.1.2.1 p &&& dq_mask t)), (0, p, 2 ^ lowC (hq A.1.2.1 p &&& dq_mask t)))
def spLook (A : AS) (x s t r : Int32) : Res × AS := spQ A x s t r (spSee A)
def spAccuse (A : AS) (s t r : Int32) : Res × AS := match decT s t r with
  | some t => if A.1.1.length < 20 then (rV (bI (Nat.beq (hq A.1.2.1 3) (dq_mask t))), chg A (A.1.1 ++ [(bif Nat.beq (hq A.1.2.1 3) (dq_mask t) then 5 else 4, 3, dq_mask t)], A.1.2)) else (.inr 1, A)
  | none => (.inr 0, A)
def spDrop (A : AS) (x : Int32) : Res × AS := match decN x A.1.1.length with
  | some k => (rV (nI (A.1.1.length - 1)), chg A (A.1.1.eraseIdx k, A.1.2))
  | none => (.inr 0, A)
def spDropAll (A : AS) : Res × AS := (rV (nI A.1.1.length), chg A ([], A.1.2))
theorem mask3_all : (List.range 3).all (fun a => (List.range 3).all (fun b => (List.range 3).all (fun c => Nat.beq (2 ^ a ||| 2 ^ (3 + b) ||| 2 ^ (6 + c)) (dq_mask (9 * a + 3 * b + c))))) = true := by decide +kernel
theorem mask3 {a b c : Nat} (ha : a < 3) (hb : 3 ≤ b ∧ b < 6) (hc : 6 ≤ c ∧ c < 9) : 2 ^ a ||| 2 ^ b ||| 2 ^ c = dq_mask (9 * a + 3 * (b - 3) + (c - 6)) := by
  have h := List.all_eq_true.mp (List.all_eq_true.mp (List.all_eq_true.mp mask3_all a (List.mem_range.mpr ha)) (b - 3) (List.mem_range.mpr (by omega))) (c - 6) (List.mem_range.mpr (by omega))
  have e := Nat.eq_of_beq_eq_true h
  rwa [show 3 + (b - 3) = b by omega, show 6 + (c - 6) = c by omega] at e
theorem lowC_ok {x : Nat} (hx : x < 512) (h0 : ¬ x = 0) : lowC x < 9 ∧ x.testBit (lowC x) = true ∧ ∀ i, i < lowC x → x.testBit i = false := by
  have hex : ∃ c, c ∈ List.range 9 ∧ x.testBit c = true := by
    apply Classical.byContradiction
    intro hn
    apply h0
    apply Nat.eq_of_testBit_eq
    intro i
    rw [Nat.zero_testBit]
    by_cases hi : i < 9
    · cases hb : x.testBit i with
      | false => rfl
      | true => exact absurd ⟨i, List.mem_range.mpr hi, hb⟩ hn
    · exact Nat.testBit_lt_two_pow (Nat.lt_of_lt_of_le hx (Nat.pow_le_pow_right (n := 2) (i := 9) (by decide) (by omega)))
  have hlt : lowC x < (List.range 9).length := List.findIdx_lt_length_of_exists hex
  have h9 : lowC x < 9 := by rwa [List.length_range] at hlt
  refine ⟨h9, ?_, fun i hi => ?_⟩
  · have h := List.findIdx_getElem (w := hlt) (p := fun c => x.testBit c) (xs := List.range 9)
    have gr : ∀ (i : Nat) (h : i < (List.range 9).length), (List.range 9)[i]'h = i := fun i h => by simp
    exact (congrArg (fun z => x.testBit z) (gr _ hlt)).symm.trans h
  · have h := List.not_of_lt_findIdx (p := fun c => x.testBit c) (xs := List.range 9) hi
    simpa [List.getElem_range] using h
section X5E
variable {d : Nat} {M : Mem} {A : AS} {dl kd pl cd : IA} {prt why : Int32} {snap : StR} {rows : Nat → StR} {sv : Nat → Option Nat} {buf : IA} {rd : RS} {D : DC} {H : HC} {R : RC} {sc hs ln : Int32}
theorem a_add {n : Nat} {k p c : Int32} (hn : n < 20) : Cl (d + 1) kX3_add [.ref 1, .int k, .int p, .int c] (cM (dl, kd, pl, cd, nI n, prt, why) snap rows sv buf rd D H R sc hs ln) (.inl none) (cM (dl, upd kd n k, upd pl n p, upd cd n c, nI (n + 1), prt, why) snap rows sv buf rd D H R sc hs ln) :=
  Cl_wr [1, 2, 3, 4, 5] (s_add (dl := dl) (kd := kd) (pl := pl) (cd := cd) (prt := prt) (why := why) hn) 5 rfl rfl ⟨rfl, rfl, rfl, rfl, rfl, trivial⟩ _ rfl
theorem a_add1 {n c : Nat} {k p : Int32} (hc : c < 9) (hn : n < 20) : Cl (d + 1) kX3_add [.ref 1, .int k, .int p, .int (nI 1 <<< (nI c &&& 31))] (cM (dl, kd, pl, cd, nI n, prt, why) snap rows sv buf rd D H R sc hs ln) (.inl none) (cM (dl, upd kd n k, upd pl n p, upd cd n (nI (2 ^ c)), nI (n + 1), prt, why) snap rows sv buf rd D H R sc hs ln) := by
  rw [sh_1 (show c < 31 by omega)]
  exact a_add hn
theorem a_remove {n k : Nat} (hk : k < n) (hn : n ≤ 20) : Cl (d + 1) kX3_remove [.ref 1, .int (nI k)] (cM (dl, kd, pl, cd, nI n, prt, why) snap rows sv buf rd D H R sc hs ln) (.inl none) (cM (dl, rmv k n kd, rmv k n pl, rmv k n cd, nI (n - 1), prt, why) snap rows sv buf rd D H R sc hs ln) :=
  Cl_wr [1, 2, 3, 4, 5] (s_remove (dl := dl) (kd := kd) (pl := pl) (cd := cd) (prt := prt) (why := why) hk hn) 5 rfl rfl ⟨rfl, rfl, rfl, rfl, rfl, trivial⟩ _ rfl
theorem a_addAnswer {n p h a : Nat} (hp : p < 3) (hd : dl p = nI h) (hh : h < 512) (hn : n < 20) : Cl (d + 2) kX3_addAnswer [.ref 1, .int (nI p), .int (nI a)] (cM (dl, kd, pl, cd, nI n, prt, why) snap rows sv buf rd D H R sc hs ln)
    (.inl (some (.int (bI (!Nat.beq (h &&& a) 0))))) (cM (dl, upd kd n (nI (bif Nat.beq (h &&& a) 0 then 3 else 2)), upd pl n (nI p), upd cd n (nI a), nI (n + 1), prt, why) snap rows sv buf rd D H R sc hs ln) :=
  Cl_wr [1, 2, 3, 4, 5] (s_addAnswer (dl := dl) (kd := kd) (pl := pl) (cd := cd) (prt := prt) (why := why) hp hd hh hn) 5 rfl rfl ⟨rfl, rfl, rfl, rfl, rfl, trivial⟩ _ rfl
theorem a_addVerdict {n h a : Nat} (hd : dl 3 = nI h) (hh : h < 512) (ha : a < 512) (hn : n < 20) : Cl (d + 2) kX3_addVerdict [.ref 1, .int (nI a)] (cM (dl, kd, pl, cd, nI n, prt, why) snap rows sv buf rd D H R sc hs ln)
    (.inl (some (.int (bI (Nat.beq h a))))) (cM (dl, upd kd n (nI (bif Nat.beq h a then 5 else 4)), upd pl n (nI 3), upd cd n (nI a), nI (n + 1), prt, why) snap rows sv buf rd D H R sc hs ln) :=
  Cl_wr [1, 2, 3, 4, 5] (s_addVerdict (dl := dl) (kd := kd) (pl := pl) (cd := cd) (prt := prt) (why := why) hd hh ha hn) 5 rfl rfl ⟨rfl, rfl, rfl, rfl, rfl, trivial⟩ _ rfl
theorem a_addSight {n p h a : Nat} (hp : p < 3) (hd : dl p = nI h) (hh : h < 512) (hn : n < 20) {v : Int32} {x : rl_C} (hv : (v, x) = bif Nat.beq (h &&& a) 0 then (cst (-1), (3, p, a)) else (nI (lowC (h &&& a)), (0, p, 2 ^ lowC (h &&& a)))) :
    Cl (d + 2) kX3_addSight [.ref 1, .int (nI p), .int (nI a)] (cM (dl, kd, pl, cd, nI n, prt, why) snap rows sv buf rd D H R sc hs ln)
      (.inl (some (.int v))) (cM (dl, upd kd n (nI x.1), upd pl n (nI x.2.1), upd cd n (nI x.2.2), nI (n + 1), prt, why) snap rows sv buf rd D H R sc hs ln) := by
  have hl : h &&& a < 512 := Nat.lt_of_le_of_lt Nat.and_le_left hh
  by_cases h0 : h &&& a = 0
  · rw [nbt h0] at hv
    obtain ⟨h1, h2⟩ := Prod.mk.inj hv
    subst h1
    subst h2
    exact Cl_wr [1, 2, 3, 4, 5] (s_addSight0 (dl := dl) (kd := kd) (pl := pl) (cd := cd) (prt := prt) (why := why) hp hd h0 hn) 5 rfl rfl ⟨rfl, rfl, rfl, rfl, rfl, trivial⟩ _ rfl
  · rw [nbf h0] at hv
    obtain ⟨h1, h2⟩ := Prod.mk.inj hv
    subst h1
    subst h2
    obtain ⟨l1, l2, l3⟩ := lowC_ok hl h0
    exact Cl_wr [1, 2, 3, 4, 5] (s_addSight1 (dl := dl) (kd := kd) (pl := pl) (cd := cd) (prt := prt) (why := why) hp hd hh l1 l2 l3 hn) 5 rfl rfl ⟨rfl, rfl, rfl, rfl, rfl, trivial⟩ _ rfl
theorem c_noteHas (hM : CR M A) (x y : Int32) : ∃ M', Cl (d + 3) kX5_noteHas [.ref 0, .int x, .int y] M (spNote 0 A x y).1 M' ∧ CR M' (spNote 0 A x y).2 := by
  have hM0 := hM
  obtain ⟨⟨dl, kd, pl, cd, cnt, prt, why⟩, snap, rows, r, buf, rd, D, H, R, rfl, h⟩ := hM
  obtain rfl : cnt = nI A.1.1.length := h.2.1.2.1
  have h20 := h.2.1.2.2.2.2.2.1
  unfold spNote
  rcases in_out x (n := 3) (by decide) with hx | ⟨p, hp, rfl⟩
  · rw [decN_out hx]
    refine ⟨_, ?_, hM0⟩
    refine Cl_go e_X5_noteHas (Nat.le_of_ble_eq_true rfl) rfl ?_; intro P hP; refine hP _ _ _ _ ?_; (conv => whnf)
    refine ⟨Nat.le_of_ble_eq_true rfl, rfl, ?_⟩
    exact Or.inr ⟨0, _, Cl_s (x_checkPlayer hx), rfl, rfl⟩
  · rw [decN_in hp (by decide)]
    rcases in_out y (n := 9) (by decide) with hy | ⟨c, hc, rfl⟩
    · rw [decN_out hy]
      refine ⟨_, ?_, hM0⟩
      refine Cl_go e_X5_noteHas (Nat.le_of_ble_eq_true rfl) rfl ?_; intro P hP; refine hP _ _ _ _ ?_; (conv => whnf)
      refine ⟨Nat.le_of_ble_eq_true rfl, rfl, ?_⟩; (conv => whnf)
      refine Or.inl ⟨_, _, Cl_s (s_checkPlayer hp), ?_⟩; (conv => whnf)
      refine ⟨Nat.le_of_ble_eq_true rfl, rfl, ?_⟩
      exact Or.inr ⟨0, _, Cl_s (x_checkCard hy), rfl, rfl⟩
    · rw [decN_in hc (by decide)]
      by_cases h2 : A.1.1.length < 20
      · simp only [if_pos h2]
        refine ⟨_, ?_, CR_chg h (stR_add h.2.1 h2 (clOK_0 (Or.inl rfl) hp hc))⟩
        refine Cl_go e_X5_noteHas (Nat.le_of_ble_eq_true rfl) rfl ?_; intro P hP; refine hP _ _ _ _ ?_; (conv => whnf)
        refine ⟨Nat.le_of_ble_eq_true rfl, rfl, ?_⟩; (conv => whnf)
        refine Or.inl ⟨_, _, Cl_s (s_checkPlayer hp), ?_⟩; (conv => whnf)
        refine ⟨Nat.le_of_ble_eq_true rfl, rfl, ?_⟩; (conv => whnf)
        refine Or.inl ⟨_, _, Cl_s (s_checkCard hc), ?_⟩; (conv => whnf)
        refine ⟨Nat.le_of_ble_eq_true rfl, rfl, ?_⟩; (conv => whnf)
        refine Or.inl ⟨_, _, s_checkRoom (d := d + 1) (n := A.1.1.length) rfl h2, ?_⟩; (conv => whnf)
        refine ⟨Nat.le_of_ble_eq_true rfl, rfl, ?_⟩; (conv => whnf)
        refine Or.inl ⟨_, _, s_remember h.1 h.2.2.2.1, ?_⟩; (conv => whnf)
        refine ⟨Nat.le_of_ble_eq_true rfl, rfl, ?_⟩; (conv => whnf)
        refine Or.inl ⟨_, _, a_add1 (d := d + 1) hc h2, ?_⟩; (conv => whnf)
        exact ⟨rfl, ⟨.int, rfl, rfl⟩, rfl, rfl⟩
      · simp only [if_neg h2]
        refine ⟨_, ?_, hM0⟩
        refine Cl_go e_X5_noteHas (Nat.le_of_ble_eq_true rfl) rfl ?_; intro P hP; refine hP _ _ _ _ ?_; (conv => whnf)
        refine ⟨Nat.le_of_ble_eq_true rfl, rfl, ?_⟩; (conv => whnf)
        refine Or.inl ⟨_, _, Cl_s (s_checkPlayer hp), ?_⟩; (conv => whnf)
        refine ⟨Nat.le_of_ble_eq_true rfl, rfl, ?_⟩; (conv => whnf)
        refine Or.inl ⟨_, _, Cl_s (s_checkCard hc), ?_⟩; (conv => whnf)
        refine ⟨Nat.le_of_ble_eq_true rfl, rfl, ?_⟩; (conv => whnf)
        exact Or.inr ⟨1, _, x_checkRoom (d := d + 1) (n := A.1.1.length) rfl (by omega), rfl, rfl⟩
theorem c_noteLacks (hM : CR M A) (x y : Int32) : ∃ M', Cl (d + 3) kX5_noteLacks [.ref 0, .int x, .int y] M (spNote 1 A x y).1 M' ∧ CR M' (spNote 1 A x y).2 := by
  have hM0 := hM
  obtain ⟨⟨dl, kd, pl, cd, cnt, prt, why⟩, snap, rows, r, buf, rd, D, H, R, rfl, h⟩ := hM
  obtain rfl : cnt = nI A.1.1.length := h.2.1.2.1
  have h20 := h.2.1.2.2.2.2.2.1
  unfold spNote
  rcases in_out x (n := 3) (by decide) with hx | ⟨p, hp, rfl⟩
  · rw [decN_out hx]
    refine ⟨_, ?_, hM0⟩
    refine Cl_go e_X5_noteLacks (Nat.le_of_ble_eq_true rfl) rfl ?_; intro P hP; refine hP _ _ _ _ ?_; (conv => whnf)
    refine ⟨Nat.le_of_ble_eq_true rfl, rfl, ?_⟩
    exact Or.inr ⟨0, _, Cl_s (x_checkPlayer hx), rfl, rfl⟩
  · rw [decN_in hp (by decide)]
    rcases in_out y (n := 9) (by decide) with hy | ⟨c, hc, rfl⟩
    · rw [decN_out hy]
      refine ⟨_, ?_, hM0⟩
      refine Cl_go e_X5_noteLacks (Nat.le_of_ble_eq_true rfl) rfl ?_; intro P hP; refine hP _ _ _ _ ?_; (conv => whnf)
      refine ⟨Nat.le_of_ble_eq_true rfl, rfl, ?_⟩; (conv => whnf)
      refine Or.inl ⟨_, _, Cl_s (s_checkPlayer hp), ?_⟩; (conv => whnf)
      refine ⟨Nat.le_of_ble_eq_true rfl, rfl, ?_⟩
      exact Or.inr ⟨0, _, Cl_s (x_checkCard hy), rfl, rfl⟩
    · rw [decN_in hc (by decide)]
      by_cases h2 : A.1.1.length < 20
      · simp only [if_pos h2]
        refine ⟨_, ?_, CR_chg h (stR_add h.2.1 h2 (clOK_0 (Or.inr rfl) hp hc))⟩
        refine Cl_go e_X5_noteLacks (Nat.le_of_ble_eq_true rfl) rfl ?_; intro P hP; refine hP _ _ _ _ ?_; (conv => whnf)
        refine ⟨Nat.le_of_ble_eq_true rfl, rfl, ?_⟩; (conv => whnf)
        refine Or.inl ⟨_, _, Cl_s (s_checkPlayer hp), ?_⟩; (conv => whnf)
        refine ⟨Nat.le_of_ble_eq_true rfl, rfl, ?_⟩; (conv => whnf)
        refine Or.inl ⟨_, _, Cl_s (s_checkCard hc), ?_⟩; (conv => whnf)
        refine ⟨Nat.le_of_ble_eq_true rfl, rfl, ?_⟩; (conv => whnf)
        refine Or.inl ⟨_, _, s_checkRoom (d := d + 1) (n := A.1.1.length) rfl h2, ?_⟩; (conv => whnf)
        refine ⟨Nat.le_of_ble_eq_true rfl, rfl, ?_⟩; (conv => whnf)
        refine Or.inl ⟨_, _, s_remember h.1 h.2.2.2.1, ?_⟩; (conv => whnf)
        refine ⟨Nat.le_of_ble_eq_true rfl, rfl, ?_⟩; (conv => whnf)
        refine Or.inl ⟨_, _, a_add1 (d := d + 1) hc h2, ?_⟩; (conv => whnf)
        exact ⟨rfl, ⟨.int, rfl, rfl⟩, rfl, rfl⟩
      · simp only [if_neg h2]
        refine ⟨_, ?_, hM0⟩
        refine Cl_go e_X5_noteLacks (Nat.le_of_ble_eq_true rfl) rfl ?_; intro P hP; refine hP _ _ _ _ ?_; (conv => whnf)
        refine ⟨Nat.le_of_ble_eq_true rfl, rfl, ?_⟩; (conv => whnf)
        refine Or.inl ⟨_, _, Cl_s (s_checkPlayer hp), ?_⟩; (conv => whnf)
        refine ⟨Nat.le_of_ble_eq_true rfl, rfl, ?_⟩; (conv => whnf)
        refine Or.inl ⟨_, _, Cl_s (s_checkCard hc), ?_⟩; (conv => whnf)
        refine ⟨Nat.le_of_ble_eq_true rfl, rfl, ?_⟩; (conv => whnf)
        exact Or.inr ⟨1, _, x_checkRoom (d := d + 1) (n := A.1.1.length) rfl (by omega), rfl, rfl⟩
theorem c_dropClue (hM : CR M A) (x : Int32) : ∃ M', Cl (d + 3) kX5_dropClue [.ref 0, .int x] M (spDrop A x).1 M' ∧ CR M' (spDrop A x).2 := by
  have hM0 := hM
  obtain ⟨⟨dl, kd, pl, cd, cnt, prt, why⟩, snap, rows, r, buf, rd, D, H, R, rfl, h⟩ := hM
  obtain rfl : cnt = nI A.1.1.length := h.2.1.2.1
  have h20 := h.2.1.2.2.2.2.2.1
  unfold spDrop
  rcases in_out x (n := A.1.1.length) (by omega) with hx | ⟨k, hk, rfl⟩
  · rw [decN_out hx]
    refine ⟨_, ?_, hM0⟩
    refine Cl_go e_X5_dropClue (Nat.le_of_ble_eq_true rfl) rfl ?_; intro P hP; refine hP _ _ _ _ ?_; (conv => whnf)
    refine ⟨Nat.le_of_ble_eq_true rfl, rfl, ?_⟩; (conv => whnf)
    exact Or.inr ⟨0, _, x_checkClue (d := d + 1) (n := A.1.1.length) rfl hx, rfl, rfl⟩
  · rw [decN_in hk (by omega)]
    refine ⟨_, ?_, CR_chg h (stR_rmv h.2.1 hk)⟩
    refine Cl_go e_X5_dropClue (Nat.le_of_ble_eq_true rfl) rfl ?_; intro P hP; refine hP _ _ _ _ ?_; (conv => whnf)
    refine ⟨Nat.le_of_ble_eq_true rfl, rfl, ?_⟩; (conv => whnf)
    refine Or.inl ⟨_, _, s_checkClue (d := d + 1) (n := A.1.1.length) rfl h20 hk, ?_⟩; (conv => whnf)
    refine ⟨Nat.le_of_ble_eq_true rfl, rfl, ?_⟩; (conv => whnf)
    refine Or.inl ⟨_, _, s_remember h.1 h.2.2.2.1, ?_⟩; (conv => whnf)
    refine ⟨Nat.le_of_ble_eq_true rfl, rfl, ?_⟩; (conv => whnf)
    refine Or.inl ⟨_, _, a_remove (d := d + 1) hk h20, ?_⟩; (conv => whnf)
    exact ⟨rfl, ⟨.int, rfl, rfl⟩, rfl, rfl⟩
theorem stR_nil {s : StR} {a : SA} (h : stR s a) : stR (s.1, s.2.1, s.2.2.1, s.2.2.2.1, nI 0, s.2.2.2.2.2) ([], a.2) := by
  obtain ⟨h1, h2, h3, h4, h5, h6⟩ := h
  exact ⟨clM_nil _ _ _, rfl, h3, h4, h5, Nat.zero_le _, fun y hy => (by cases hy), h6.2.2⟩
theorem c_dropAll (hM : CR M A) : ∃ M', Cl (d + 3) kX5_dropAll [.ref 0] M (spDropAll A).1 M' ∧ CR M' (spDropAll A).2 := by
  obtain ⟨⟨dl, kd, pl, cd, cnt, prt, why⟩, snap, rows, r, buf, rd, D, H, R, rfl, h⟩ := hM
  obtain rfl : cnt = nI A.1.1.length := h.2.1.2.1
  refine ⟨_, ?_, CR_chg h (stR_nil h.2.1)⟩
  refine Cl_go e_X5_dropAll (Nat.le_of_ble_eq_true rfl) rfl ?_; intro P hP; refine hP _ _ _ _ ?_; (conv => whnf)
  refine ⟨Nat.le_of_ble_eq_true rfl, rfl, ?_⟩; (conv => whnf)
  refine Or.inl ⟨_, _, s_remember h.1 h.2.2.2.1, ?_⟩; (conv => whnf)
  refine ⟨⟨rfl, rfl⟩, ?_⟩; (conv => whnf)
  exact ⟨rfl, ⟨.int, rfl, rfl⟩, rfl, rfl⟩
end X5E
