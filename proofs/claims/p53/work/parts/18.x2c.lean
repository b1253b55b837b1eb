/-! the sheet of rules: whether it breaks down; the whole filling -/
def anyN (p : Nat → Bool) (n : Nat) : Bool := (List.range n).any p
theorem anyN_s (p : Nat → Bool) (n : Nat) : anyN p (n + 1) = (anyN p n || p n) := by
  unfold anyN
  rw [List.range_succ, List.any_append, List.any_cons, List.any_nil, Bool.or_false]
def fitB (n cards place : Nat) (v : NA) : Bool := Nat.ble n (rl_ps v cards place) && Nat.ble (rl_on v cards place) n
def brZ (v : NA) (c : Nat) : Bool := Nat.beq (v c) 0
def brK (v : NA) (k : Nat) : Bool := !fitB 1 (rl_kd k) 3 v
def brP (v : NA) (p : Nat) : Bool := !fitB 2 511 p v
def brD (v : NA) : Bool := anyN (brZ v) 9 || anyN (brK v) 3 || anyN (brP v) 3
def brC (v : NA) (x : rl_C) : Bool := (Nat.beq x.1 2 && Nat.beq (mkP (rl_inP v x.2.2 x.2.1) 9) 0) || (Nat.beq x.1 4 && Nat.beq (mkP (rl_inO v x.2.2 x.2.1) 9) x.2.2)
def brk (cl : List rl_C) (v : NA) : Bool := brD v || cl.any (brC v)
theorem bI_ne {b : Bool} : bI b = nI (if b = true then 1 else 0) := by cases b <;> rfl
theorem mkP_0 (p : Nat → Bool) : mkP p 9 = 0 ↔ (List.range 9).countP p = 0 := by
  rw [← mkP_cnt]
  constructor
  · intro h; rw [h]; rfl
  · intro h
    apply Nat.eq_of_testBit_eq
    intro i
    rw [Nat.zero_testBit, mkP_bit]
    by_cases hi : i < 9
    · rw [mkP_cnt, List.countP_eq_zero] at h
      have h1 := h i (List.mem_range.mpr hi)
      cases hp : p i with
      | false => exact Bool.and_false _
      | true => exact absurd hp h1
    · rw [decide_eq_false hi]; rfl
theorem mkP_all {cards : Nat} (hc : cards < 512) {p : Nat → Bool} (hp : ∀ c, p c = true → cards.testBit c = true) : mkP p 9 = cards ↔ (List.range 9).countP p = (List.range 9).countP (fun c => cards.testBit c) := by
  constructor
  · intro h
    refine cnt_congr _ (fun c hc => ?_)
    have h1 := mkP_bit p 9 c
    rw [h, decide_eq_true (List.mem_range.mp hc), Bool.true_and] at h1
    exact h1.symm
  · intro h
    apply Nat.eq_of_testBit_eq
    intro i
    rw [mkP_bit]
    by_cases hi : i < 9
    · rw [decide_eq_true hi, Bool.true_and]
      cases hq : cards.testBit i with
      | true => exact rl_cnt_eq (q := fun c => cards.testBit c) (List.range 9) (fun c _ z => hp c z) (by omega) i (List.mem_range.mpr hi) hq
      | false =>
        cases hpi : p i with
        | false => rfl
        | true => rw [hp i hpi] at hq; cases hq
    · rw [decide_eq_false hi, Bool.false_and]
      exact (Nat.testBit_lt_two_pow (Nat.lt_of_lt_of_le hc (Nat.pow_le_pow_right (n := 2) (i := 9) (by decide) (by omega)))).symm
theorem anyN_f {p : Nat → Bool} {n : Nat} : anyN p n = false ↔ ∀ i, i < n → p i = false := by
  unfold anyN
  rw [List.any_eq_false]
  constructor
  · intro h i hi
    cases hp : p i with
    | false => rfl
    | true => exact absurd hp (h i (List.mem_range.mpr hi))
  · intro h i hi
    rw [h i (List.mem_range.mp hi)]; decide
/-- it does not break down: as said before -/
theorem brk_nb {cl : List rl_C} (hok : ∀ x ∈ cl, rl_cok x) (v : NA) : brk cl v = false ↔ rl_nb cl v := by
  unfold brk brD rl_nb
  rw [Bool.or_eq_false_iff, Bool.or_eq_false_iff, Bool.or_eq_false_iff, anyN_f, anyN_f, anyN_f, List.any_eq_false]
  have hfit : ∀ n cards place, (!fitB n cards place v) = false ↔ n ≤ rl_ps v cards place ∧ rl_on v cards place ≤ n := by
    intro n cards place
    unfold fitB
    rw [Bool.not_eq_false', Bool.and_eq_true]
    exact ⟨fun h => ⟨Nat.le_of_ble_eq_true h.1, Nat.le_of_ble_eq_true h.2⟩, fun h => ⟨Nat.ble_eq_true_of_le h.1, Nat.ble_eq_true_of_le h.2⟩⟩
  have hcl : ∀ x ∈ cl, (¬ brC v x = true) ↔ ((x.1 = 2 → 1 ≤ rl_ps v x.2.2 x.2.1) ∧ (x.1 = 4 → rl_on v x.2.2 x.2.1 ≠ 3)) := by
    intro x hx
    have ok := hok x hx
    unfold brC
    rw [Bool.or_eq_true, Bool.and_eq_true, Bool.and_eq_true, nbq, nbq, nbq, nbq, mkP_0, mkP_all ok.2.2.1 (fun c hc => by unfold rl_inO at hc; rw [Bool.and_eq_true] at hc; exact hc.1)]
    show ¬ ((x.1 = 2 ∧ rl_ps v x.2.2 x.2.1 = 0) ∨ (x.1 = 4 ∧ rl_on v x.2.2 x.2.1 = _)) ↔ _
    constructor
    · intro h
      refine ⟨fun h2 => ?_, fun h4 h3 => ?_⟩
      · have : ¬ rl_ps v x.2.2 x.2.1 = 0 := fun z => h (Or.inl ⟨h2, z⟩)
        omega
      · exact h (Or.inr ⟨h4, by rw [ok.2.2.2 h4]; exact h3⟩)
    · rintro ⟨h1, h2⟩ (⟨q1, q2⟩ | ⟨q1, q2⟩)
      · have := h1 q1; omega
      · rw [ok.2.2.2 q1] at q2; exact h2 q1 q2
  constructor
  · rintro ⟨⟨⟨h1, h2⟩, h3⟩, h4⟩
    refine ⟨fun c hc h0 => ?_, fun k hk => (hfit _ _ _).mp (h2 k hk), fun p hp => (hfit _ _ _).mp (h3 p hp), fun x hx => (hcl x hx).mp (h4 x hx)⟩
    have := h1 c hc
    unfold brZ at this
    rw [nbt h0] at this; cases this
  · rintro ⟨h1, h2, h3, h4⟩
    exact ⟨⟨⟨fun c hc => nbf (h1 c hc), fun k hk => (hfit _ _ _).mpr (h2 k hk)⟩, fun p hp => (hfit _ _ _).mpr (h3 p hp)⟩, fun x hx => (hcl x hx).mpr (h4 x hx)⟩
section X2C
variable {d : Nat} {br fr : Int32} {v : NA} {kd pc cd : IA} {cnt prt why : Int32}
theorem s_breaksDown (hv : rl_ok v) : Cl (d + 3) kX2_breaksDown [.ref 0] (mX2 br fr (nA v)) (.inl (some (.int (bI (brD v))))) (mX2 br fr (nA v)) := by
  refine Cl_go e_X2_breaksDown (Nat.le_of_ble_eq_true rfl) rfl ?_; intro P hP; refine hP _ _ _ _ ?_; conv => whnf
  have l3 : ∀ (j i : Nat) (b : Bool) (x : Int32), x = nI i → i + j = 3 → b = (anyN (brZ v) 9 || anyN (brK v) 3 || anyN (brP v) i) → P 73 [some (.ref 0), some (.int (bI b)), some (.int x)] [] (mX2 br fr (nA v)) := by
    intro j
    induction j with
    | zero =>
      intro i b x hx hi hb
      have hi : i = 3 := hi
      subst hi
      refine hP _ _ _ _ ?_; conv => whnf
      refine b2 3 3 hx rfl (by omega) (by omega) (fun _ => ?_) (fun (q : ¬ 3 ≤ 3) => by omega)
      refine hP _ _ _ _ ?_; conv => whnf
      exact ⟨rfl, ⟨.boolean, rfl, b01⟩, rI (by rw [hb]; rfl), rfl⟩
    | succ j ih =>
      intro i b x hx hi hb
      subst hx
      have fin : ∀ c : Bool, c = (anyN (brZ v) 9 || anyN (brK v) 3 || anyN (brP v) (i + 1)) → P 99 [some (.ref 0), none, some (.int (nI i))] [.int (bI c)] (mX2 br fr (nA v)) := by
        intro c hc
        refine hP _ _ _ _ ?_; conv => whnf
        exact ih (i + 1) _ _ (nI_1 i) (by omega) hc
      rw [anyN_s (brP v) i, ← Bool.or_assoc, ← hb] at fin
      refine hP _ _ _ _ ?_; conv => whnf
      refine b2 i 3 rfl rfl (by omega) (by omega) (fun (q : 3 ≤ i) => by omega) (fun _ => ?_); conv => whnf
      cases b with
      | true =>
        refine b1 1 rfl (by omega) (fun _ => ?_) (fun (q : ¬ ¬ 1 = 0) => by omega)
        refine hP _ _ _ _ ?_; conv => whnf
        exact fin true rfl
      | false =>
        refine b1 0 rfl (by omega) (fun (q : ¬ 0 = 0) => by omega) (fun _ => ?_); conv => whnf
        refine ⟨Nat.le_of_ble_eq_true rfl, rfl, ?_⟩; conv => whnf
        refine Or.inl ⟨_, _, s_fits (n := 2) (cards := 511) (place := i) (by decide) (by decide) (by omega) hv, ?_⟩; conv => whnf
        cases hf : fitB 2 511 i v with
        | true =>
          refine b1 1 (by rw [show (Nat.ble 2 (rl_ps v 511 i) && Nat.ble (rl_on v 511 i) 2) = true from hf]; rfl) (by omega) (fun _ => ?_) (fun (q : ¬ ¬ 1 = 0) => by omega)
          refine hP _ _ _ _ ?_; conv => whnf
          exact fin false (by unfold brP; rw [hf]; rfl)
        | false =>
          refine b1 0 (by rw [show (Nat.ble 2 (rl_ps v 511 i) && Nat.ble (rl_on v 511 i) 2) = false from hf]; rfl) (by omega) (fun (q : ¬ 0 = 0) => by omega) (fun _ => ?_)
          show P 94 _ _ _
          refine hP _ _ _ _ ?_; conv => whnf
          exact fin true (by unfold brP; rw [hf]; rfl)
  have l2 : ∀ (j i : Nat) (b : Bool) (x : Int32), x = nI i → i + j = 3 → b = (anyN (brZ v) 9 || anyN (brK v) i) → P 37 [some (.ref 0), some (.int (bI b)), some (.int x)] [] (mX2 br fr (nA v)) := by
    intro j
    induction j with
    | zero =>
      intro i b x hx hi hb
      have hi : i = 3 := hi
      subst hi
      refine hP _ _ _ _ ?_; conv => whnf
      refine b2 3 3 hx rfl (by omega) (by omega) (fun _ => ?_) (fun (q : ¬ 3 ≤ 3) => by omega)
      refine hP _ _ _ _ ?_; conv => whnf
      exact l3 3 0 b _ rfl rfl (by rw [hb]; show _ = (_ || false); rw [Bool.or_false])
    | succ j ih =>
      intro i b x hx hi hb
      subst hx
      have fin : ∀ c : Bool, c = (anyN (brZ v) 9 || anyN (brK v) (i + 1)) → P 64 [some (.ref 0), none, some (.int (nI i))] [.int (bI c)] (mX2 br fr (nA v)) := by
        intro c hc
        refine hP _ _ _ _ ?_; conv => whnf
        exact ih (i + 1) _ _ (nI_1 i) (by omega) hc
      rw [anyN_s (brK v) i, ← Bool.or_assoc, ← hb] at fin
      refine hP _ _ _ _ ?_; conv => whnf
      refine b2 i 3 rfl rfl (by omega) (by omega) (fun (q : 3 ≤ i) => by omega) (fun _ => ?_); conv => whnf
      cases b with
      | true =>
        refine b1 1 rfl (by omega) (fun _ => ?_) (fun (q : ¬ ¬ 1 = 0) => by omega)
        refine hP _ _ _ _ ?_; conv => whnf
        exact fin true rfl
      | false =>
        refine b1 0 rfl (by omega) (fun (q : ¬ 0 = 0) => by omega) (fun _ => ?_); conv => whnf
        refine ⟨Nat.le_of_ble_eq_true rfl, rfl, ?_⟩; conv => whnf
        refine Or.inl ⟨_, _, Cl_s (s_cardsOfKind (show i < 3 by omega)), ?_⟩; conv => whnf
        refine ⟨Nat.le_of_ble_eq_true rfl, rfl, ?_⟩; conv => whnf
        refine Or.inl ⟨_, _, s_fits (n := 1) (cards := rl_kd i) (place := 3) (by decide) (kd_lt (by omega)) (by decide) hv, ?_⟩; conv => whnf
        cases hf : fitB 1 (rl_kd i) 3 v with
        | true =>
          refine b1 1 (by rw [show (Nat.ble 1 (rl_ps v (rl_kd i) 3) && Nat.ble (rl_on v (rl_kd i) 3) 1) = true from hf]; rfl) (by omega) (fun _ => ?_) (fun (q : ¬ ¬ 1 = 0) => by omega)
          refine hP _ _ _ _ ?_; conv => whnf
          exact fin false (by unfold brK; rw [hf]; rfl)
        | false =>
          refine b1 0 (by rw [show (Nat.ble 1 (rl_ps v (rl_kd i) 3) && Nat.ble (rl_on v (rl_kd i) 3) 1) = false from hf]; rfl) (by omega) (fun (q : ¬ 0 = 0) => by omega) (fun _ => ?_)
          show P 59 _ _ _
          refine hP _ _ _ _ ?_; conv => whnf
          exact fin true (by unfold brK; rw [hf]; rfl)
  have l1 : ∀ (j i : Nat) (b : Bool) (x : Int32), x = nI i → i + j = 9 → b = anyN (brZ v) i → P 4 [some (.ref 0), some (.int (bI b)), some (.int x)] [] (mX2 br fr (nA v)) := by
    intro j
    induction j with
    | zero =>
      intro i b x hx hi hb
      have hi : i = 9 := hi
      subst hi
      refine hP _ _ _ _ ?_; conv => whnf
      refine b2 9 9 hx rfl (by omega) (by omega) (fun _ => ?_) (fun (q : ¬ 9 ≤ 9) => by omega)
      refine hP _ _ _ _ ?_; conv => whnf
      exact l2 3 0 b _ rfl rfl (by rw [hb]; show _ = (_ || false); rw [Bool.or_false])
    | succ j ih =>
      intro i b x hx hi hb
      subst hx
      have hvi := hv i (by omega)
      have fin : ∀ c : Bool, c = anyN (brZ v) (i + 1) → P 28 [some (.ref 0), none, some (.int (nI i))] [.int (bI c)] (mX2 br fr (nA v)) := by
        intro c hc
        refine hP _ _ _ _ ?_; conv => whnf
        exact ih (i + 1) _ _ (nI_1 i) (by omega) hc
      rw [anyN_s, ← hb] at fin
      have e0 : nA v (nI i).toNatClampNeg = nI (v i) := by rw [nI_clamp (by omega)]; rfl
      refine hP _ _ _ _ ?_; conv => whnf
      refine b2 i 9 rfl rfl (by omega) (by omega) (fun (q : 9 ≤ i) => by omega) (fun _ => ?_); conv => whnf
      cases b with
      | true =>
        refine b1 1 rfl (by omega) (fun _ => ?_) (fun (q : ¬ ¬ 1 = 0) => by omega)
        refine hP _ _ _ _ ?_; conv => whnf
        exact fin true rfl
      | false =>
        refine b1 0 rfl (by omega) (fun (q : ¬ 0 = 0) => by omega) (fun _ => ?_); conv => whnf
        refine ⟨vi rfl (show i < 9 by omega) (by decide), ?_⟩; conv => whnf
        refine b1 (v i) e0 (by omega) (fun (q : ¬ v i = 0) => ?_) (fun (q : ¬ ¬ v i = 0) => ?_)
        · refine hP _ _ _ _ ?_; conv => whnf
          exact fin false (by unfold brZ; rw [nbf q]; rfl)
        · show P 23 _ _ _
          refine hP _ _ _ _ ?_; conv => whnf
          exact fin true (by unfold brZ; rw [nbt (Decidable.of_not_not q)]; rfl)
  exact l1 9 0 false _ rfl rfl rfl
theorem s_breaksClue {cl : List rl_C} (hcl : clM cl kd pc cd) (hn : cl.length ≤ 20) (ok : okC cl) (hv : rl_ok v) : Cl (d + 2) kX2_breaksClue [.ref 0, .ref 2] (mX2S br fr (nA v) kd pc cd (nI cl.length) prt why) (.inl (some (.int (bI (cl.any (brC v)))))) (mX2S br fr (nA v) kd pc cd (nI cl.length) prt why) := by
  refine Cl_go e_X2_breaksClue (Nat.le_of_ble_eq_true rfl) rfl ?_; intro P hP; refine hP _ _ _ _ ?_; conv => whnf
  have lp : ∀ (j i : Nat) (b : Bool) (x : Int32), x = nI i → i + j = cl.length → b = (cl.take i).any (brC v) → P 4 [some (.ref 0), some (.ref 2), some (.int (bI b)), some (.int x), none, none] [] (mX2S br fr (nA v) kd pc cd (nI cl.length) prt why) := by
    intro j
    induction j with
    | zero =>
      intro i b x hx hi hb
      have hi : i = cl.length := hi
      refine hP _ _ _ _ ?_; conv => whnf
      refine b2 i cl.length hx rfl (by omega) (by omega) (fun _ => ?_) (fun (q : ¬ cl.length ≤ i) => by omega)
      refine hP _ _ _ _ ?_; conv => whnf
      rw [List.take_of_length_le (by omega)] at hb
      exact ⟨rfl, ⟨.boolean, rfl, b01⟩, rI (by rw [hb]), rfl⟩
    | succ j ih =>
      intro i b x hx hi hb
      subst hx
      have hg : cl[i]? = some cl[i] := List.getElem?_eq_getElem (by omega)
      have hm := ok _ (List.mem_of_getElem? hg)
      obtain ⟨m1, m2, m3⟩ := hcl i _ hg
      have e0 : (nI i).toNatClampNeg = i := nI_clamp (by omega)
      have fin : ∀ c : Bool, c = (b || brC v cl[i]) → P 87 [some (.ref 0), some (.ref 2), none, some (.int (nI i)), none, none] [.int (bI c)] (mX2S br fr (nA v) kd pc cd (nI cl.length) prt why) := by
        intro c hc
        refine hP _ _ _ _ ?_; conv => whnf
        refine ih (i + 1) _ _ (nI_1 i) (by omega) ?_
        rw [List.take_add_one, hg, List.any_append, ← hb, hc]
        show _ = (b || (brC v cl[i] || false))
        rw [Bool.or_false]
      have f82 : (b || brC v cl[i]) = true → P 82 [some (.ref 0), some (.ref 2), none, some (.int (nI i)), none, none] [] (mX2S br fr (nA v) kd pc cd (nI cl.length) prt why) := by
        intro h
        refine hP _ _ _ _ ?_; conv => whnf
        exact fin true h.symm
      have f86 : (b || brC v cl[i]) = false → P 86 [some (.ref 0), some (.ref 2), none, some (.int (nI i)), none, none] [] (mX2S br fr (nA v) kd pc cd (nI cl.length) prt why) := by
        intro h
        refine hP _ _ _ _ ?_; conv => whnf
        exact fin false h.symm
      have ek : kd (nI i).toNatClampNeg = nI cl[i].1 := by rw [e0, m1]
      have ep : pc (nI i).toNatClampNeg = nI cl[i].2.1 := by rw [e0, m2]
      have ec : cd (nI i).toNatClampNeg = nI cl[i].2.2 := by rw [e0, m3]
      have w1 : Cl (d + 1) kX2_withPlace [.ref 0, .int (cd (nI i).toNatClampNeg), .int (pc (nI i).toNatClampNeg)] (mX2S br fr (nA v) kd pc cd (nI cl.length) prt why) (.inl (some (.int (nI (mkP (rl_inP v cl[i].2.2 cl[i].2.1) 9))))) (mX2S br fr (nA v) kd pc cd (nI cl.length) prt why) := by
        rw [ec, ep]
        exact Cl_rd [0, 1] (s_withPlace (br := br) (fr := fr) hm.2.2 hm.2.1 hv) 2 rfl rfl ⟨rfl, rfl, trivial⟩
      have w2 : Cl (d + 1) kX2_withOnly [.ref 0, .int (cd (nI i).toNatClampNeg), .int (pc (nI i).toNatClampNeg)] (mX2S br fr (nA v) kd pc cd (nI cl.length) prt why) (.inl (some (.int (nI (mkP (rl_inO v cl[i].2.2 cl[i].2.1) 9))))) (mX2S br fr (nA v) kd pc cd (nI cl.length) prt why) := by
        rw [ec, ep]
        exact Cl_rd [0, 1] (s_withOnly (br := br) (fr := fr) hm.2.2 hm.2.1 hv) 2 rfl rfl ⟨rfl, rfl, trivial⟩
      have hl1 := mkP9 (rl_inP v cl[i].2.2 cl[i].2.1)
      have hl2 := mkP9 (rl_inO v cl[i].2.2 cl[i].2.1)
      refine hP _ _ _ _ ?_; conv => whnf
      refine b2 i cl.length rfl rfl (by omega) (by omega) (fun (q : cl.length ≤ i) => by omega) (fun _ => ?_); conv => whnf
      refine b2 i 20 rfl rfl (by omega) (by omega) (fun (q : 20 ≤ i) => by omega) (fun _ => ?_); conv => whnf
      refine ⟨vi rfl (show i < 20 by omega) (by decide), ?_⟩; conv => whnf
      refine ⟨vi rfl (show i < 20 by omega) (by decide), ?_⟩; conv => whnf
      cases b with
      | true =>
        refine b1 1 rfl (by omega) (fun _ => ?_) (fun (q : ¬ ¬ 1 = 0) => by omega)
        exact f82 rfl
      | false =>
        refine b1 0 rfl (by omega) (fun (q : ¬ 0 = 0) => by omega) (fun _ => ?_); conv => whnf
        have f59 : (Nat.beq cl[i].1 2 && Nat.beq (mkP (rl_inP v cl[i].2.2 cl[i].2.1) 9) 0) = false → P 59 [some (.ref 0), some (.ref 2), none, some (.int (nI i)), some (.int (cd (nI i).toNatClampNeg)), some (.int (pc (nI i).toNatClampNeg))] [] (mX2S br fr (nA v) kd pc cd (nI cl.length) prt why) := by
          intro hz
          refine hP _ _ _ _ ?_; conv => whnf
          refine ⟨vi rfl (show i < 20 by omega) (by decide), ?_⟩; conv => whnf
          refine b2 cl[i].1 4 ek rfl (by omega) (by omega) (fun (q : ¬ cl[i].1 = 4) => ?_) (fun (q : ¬ ¬ cl[i].1 = 4) => ?_)
          · exact f86 (by unfold brC; rw [hz, nbf q]; rfl)
          · conv => whnf
            refine ⟨Nat.le_of_ble_eq_true rfl, rfl, ?_⟩; conv => whnf
            refine Or.inl ⟨_, _, w2, ?_⟩; conv => whnf
            refine b2 _ _ rfl ec (by omega) (by omega) (fun (q2 : ¬ mkP (rl_inO v cl[i].2.2 cl[i].2.1) 9 = cl[i].2.2) => ?_) (fun (q2 : ¬ ¬ mkP (rl_inO v cl[i].2.2 cl[i].2.1) 9 = cl[i].2.2) => ?_)
            · exact f86 (by unfold brC; rw [hz, nbf q2, Bool.and_false]; rfl)
            · exact f82 (by unfold brC; rw [hz, nbt (Decidable.of_not_not q), nbt (Decidable.of_not_not q2)]; rfl)
        refine ⟨vi rfl (show i < 20 by omega) (by decide), ?_⟩; conv => whnf
        refine b2 cl[i].1 2 ek rfl (by omega) (by omega) (fun (q : ¬ cl[i].1 = 2) => ?_) (fun (q : ¬ ¬ cl[i].1 = 2) => ?_)
        · exact f59 (by rw [nbf q]; rfl)
        · conv => whnf
          refine ⟨Nat.le_of_ble_eq_true rfl, rfl, ?_⟩; conv => whnf
          refine Or.inl ⟨_, _, w1, ?_⟩; conv => whnf
          refine b1 _ rfl (by omega) (fun (q2 : mkP (rl_inP v cl[i].2.2 cl[i].2.1) 9 = 0) => ?_) (fun (q2 : ¬ mkP (rl_inP v cl[i].2.2 cl[i].2.1) 9 = 0) => ?_)
          · exact f82 (by unfold brC; rw [nbt (Decidable.of_not_not q), nbt q2]; rfl)
          · exact f59 (by rw [nbf q2, Bool.and_false])
  exact lp cl.length 0 false _ rfl (by omega) rfl
end X2C
