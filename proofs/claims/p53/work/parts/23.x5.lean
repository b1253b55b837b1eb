/-! the class: what stands by itself: triples, exchanges, refusals -/
def ntr (x : Nat) : Nat → Nat
  | 0 => 0
  | n + 1 => bif x.testBit n then 3 * ntr x n + n % 3 else ntr x n
def itr (x : Nat) (n : Nat) : Bool := (List.range n).all (fun k => Nat.beq (pcN (x &&& dq_kind k)) 1)
def exN (x a b : Nat) : Nat := bif x.testBit a == x.testBit b then x else x ^^^ 2 ^ a ^^^ 2 ^ b
theorem ntr_all : (List.range 27).all (fun t => Nat.beq (ntr (dq_mask t) 9) t) = true := by decide +kernel
theorem ntr_mask {t : Nat} (h : t < 27) : ntr (dq_mask t) 9 = t := Nat.eq_of_beq_eq_true (List.all_eq_true.mp ntr_all t (List.mem_range.mpr h))
theorem exN_lt {x a b : Nat} (hx : x < 512) (ha : a < 9) (hb : b < 9) : exN x a b < 512 := by
  unfold exN
  cases x.testBit a == x.testBit b with
  | true => exact hx
  | false => exact Nat.xor_lt_two_pow (n := 9) (Nat.xor_lt_two_pow (n := 9) hx (Nat.pow_lt_pow_right (by decide) ha)) (Nat.pow_lt_pow_right (by decide) hb)
section X5A
variable {d : Nat}
theorem s_numberOfTriple {x : Nat} (hx : x < 512) : Cl (d + 1) kX5_numberOfTriple [.int (nI x)] [] (.inl (some (.int (nI (ntr x 9))))) [] := by
  refine Cl_go e_X5_numberOfTriple (Nat.le_of_ble_eq_true rfl) rfl ?_; intro P hP; refine hP _ _ _ _ ?_; (conv => whnf)
  have lp : ∀ (j i : Nat) (a y : Int32), y = nI i → i + j = 9 → a = nI (ntr x i) → P 4 [some (.int (nI x)), some (.int a), some (.int y)] [] [] := by
    intro j
    induction j with
    | zero =>
      intro i a y hy hi ha
      have hi : i = 9 := hi
      subst hi
      refine hP _ _ _ _ ?_; (conv => whnf)
      refine b2 9 9 hy rfl (by omega) (by omega) (fun _ => ?_) (fun (q : ¬ 9 ≤ 9) => by omega)
      refine hP _ _ _ _ ?_; (conv => whnf)
      exact ⟨rfl, ⟨.int, rfl, rfl⟩, rI (ha), rfl⟩
    | succ j ih =>
      intro i a y hy hi ha
      subst hy
      have es : ntr x (i + 1) = bif x.testBit i then 3 * ntr x i + i % 3 else ntr x i := rfl
      refine hP _ _ _ _ ?_; (conv => whnf)
      refine b2 i 9 rfl rfl (by omega) (by omega) (fun (q : 9 ≤ i) => by omega) (fun _ => ?_); (conv => whnf)
      refine b1 _ (nI_bit (show i < 31 by omega)) (bit_lt (by omega)) (fun (q : x &&& 2 ^ i = 0) => ?_) (fun (q : ¬ x &&& 2 ^ i = 0) => ?_)
      · refine hP _ _ _ _ ?_; (conv => whnf)
        refine ih (i + 1) _ _ (nI_1 i) (by omega) ?_
        rw [es, and_bit_0 q]; exact ha
      · (conv => whnf)
        refine ⟨by decide, ?_⟩; (conv => whnf)
        refine hP _ _ _ _ ?_; (conv => whnf)
        refine ih (i + 1) _ _ (nI_1 i) (by omega) ?_
        rw [es, and_bit_1 q, ha]
        have e3 : nI i - nI i / nI 3 * nI 3 = nI (i % 3) := pk_rem (by omega) (by decide) (by decide)
        show nI 3 * nI (ntr x i) + (nI i - nI i / nI 3 * nI 3) = nI (3 * ntr x i + i % 3)
        rw [e3, pk_mul, nI_add]
  exact lp 9 0 _ _ rfl rfl rfl
theorem s_isTriple {x : Nat} (hx : x < 512) : Cl (d + 2) kX5_isTriple [.int (nI x)] [] (.inl (some (.int (bI (itr x 3))))) [] := by
  have hk : ∀ k, x &&& dq_kind k < 512 := fun k => Nat.lt_of_le_of_lt Nat.and_le_left hx
  refine Cl_go e_X5_isTriple (Nat.le_of_ble_eq_true rfl) rfl ?_; intro P hP; refine hP _ _ _ _ ?_; (conv => whnf)
  have lp : ∀ (j i : Nat) (b : Bool) (y : Int32), y = nI i → i + j = 3 → b = itr x i → P 4 [some (.int (nI x)), some (.int (bI b)), some (.int y)] [] [] := by
    intro j
    induction j with
    | zero =>
      intro i b y hy hi hb
      have hi : i = 3 := hi
      subst hi
      refine hP _ _ _ _ ?_; (conv => whnf)
      refine b2 3 3 hy rfl (by omega) (by omega) (fun _ => ?_) (fun (q : ¬ 3 ≤ 3) => by omega)
      refine hP _ _ _ _ ?_; (conv => whnf)
      exact ⟨rfl, ⟨.boolean, rfl, b01⟩, rI (by rw [hb]), rfl⟩
    | succ j ih =>
      intro i b y hy hi hb
      subst hy
      have es : itr x (i + 1) = (itr x i && Nat.beq (pcN (x &&& dq_kind i)) 1) := by
        unfold itr
        rw [List.range_succ, List.all_append, List.all_cons, List.all_nil, Bool.and_true]
      have f31 : ∀ c : Bool, c = itr x (i + 1) → P 31 [some (.int (nI x)), none, some (.int (nI i))] [.int (bI c)] [] := by
        intro c hc
        refine hP _ _ _ _ ?_; (conv => whnf)
        exact ih (i + 1) c _ (nI_1 i) (by omega) hc
      rw [es, ← hb] at f31
      have hpc := pcN_lt (x &&& dq_kind i)
      refine hP _ _ _ _ ?_; (conv => whnf)
      refine b2 i 3 rfl rfl (by omega) (by omega) (fun (q : 3 ≤ i) => by omega) (fun _ => ?_); (conv => whnf)
      cases b with
      | false =>
        refine b1 0 rfl (by omega) (fun _ => ?_) (fun (q : ¬ 0 = 0) => by omega)
        refine hP _ _ _ _ ?_; (conv => whnf)
        exact f31 false rfl
      | true =>
        refine b1 1 rfl (by omega) (fun (q : 1 = 0) => by omega) (fun _ => ?_); (conv => whnf)
        refine ⟨Nat.le_of_ble_eq_true rfl, rfl, ?_⟩; (conv => whnf)
        refine Or.inl ⟨_, _, s_cardsOfKind (show i < 3 by omega), ?_⟩; (conv => whnf)
        refine ⟨Nat.le_of_ble_eq_true rfl, rfl, ?_⟩; (conv => whnf)
        have hc : Cl (d + 1) kJ6_bitCount_0f7a4 [.int (nI x &&& nI (dq_kind i))] [] (.inl (some (.int (nI (pcN (x &&& dq_kind i)))))) [] := by
          rw [nI_and]; exact s_bitCount (hk i)
        refine Or.inl ⟨_, _, hc, ?_⟩; (conv => whnf)
        refine b2 _ 1 rfl rfl (by omega) (by omega) (fun (q : ¬ pcN (x &&& dq_kind i) = 1) => ?_) (fun (q : ¬ ¬ pcN (x &&& dq_kind i) = 1) => ?_)
        · refine hP _ _ _ _ ?_; (conv => whnf)
          exact f31 false (by rw [nbf q]; rfl)
        · (conv => whnf)
          exact f31 true (by rw [nbt (Decidable.of_not_not q)]; rfl)
  exact lp 3 0 true _ rfl rfl rfl
theorem s_exchanged {x a b : Nat} (hx : x < 512) (ha : a < 9) (hb : b < 9) : Cl (d + 1) kX5_exchanged [.int (nI x), .int (nI a), .int (nI b)] [] (.inl (some (.int (nI (exN x a b))))) [] := by
  refine Cl_go e_X5_exchanged (Nat.le_of_ble_eq_true rfl) rfl ?_; intro P hP; refine hP _ _ _ _ ?_; (conv => whnf)
  have f27 : ∀ p q : Bool, p = x.testBit a → q = x.testBit b → P 27 [some (.int (nI x)), some (.int (nI a)), some (.int (nI b)), some (.int (bI p)), none] [.int (bI q)] [] := by
    intro p q hp hq
    have ex : exN x a b = bif p == q then x else x ^^^ 2 ^ a ^^^ 2 ^ b := by rw [hp, hq]; rfl
    have e1 : nI x ^^^ nI 1 <<< (nI a &&& 31) ^^^ nI 1 <<< (nI b &&& 31) = nI (x ^^^ 2 ^ a ^^^ 2 ^ b) := by rw [sh_1 (show a < 31 by omega), sh_1 (show b < 31 by omega), nI_xor, nI_xor]
    refine hP _ _ _ _ ?_; (conv => whnf)
    cases p with
    | true =>
      cases q with
      | true =>
        refine b2 1 1 rfl rfl (by omega) (by omega) (fun (q : ¬ 1 = 1) => by omega) (fun _ => ?_); (conv => whnf)
        refine hP _ _ _ _ ?_; (conv => whnf)
        exact ⟨rfl, ⟨.int, rfl, rfl⟩, rI (by rw [ex]; rfl), rfl⟩
      | false =>
        refine b2 1 0 rfl rfl (by omega) (by omega) (fun _ => ?_) (fun (q : ¬ ¬ 1 = 0) => by omega)
        refine hP _ _ _ _ ?_; (conv => whnf)
        refine hP _ _ _ _ ?_; (conv => whnf)
        exact ⟨rfl, ⟨.int, rfl, rfl⟩, rI (by rw [ex]; exact e1), rfl⟩
    | false =>
      cases q with
      | true =>
        refine b2 0 1 rfl rfl (by omega) (by omega) (fun _ => ?_) (fun (q : ¬ ¬ 0 = 1) => by omega)
        refine hP _ _ _ _ ?_; (conv => whnf)
        refine hP _ _ _ _ ?_; (conv => whnf)
        exact ⟨rfl, ⟨.int, rfl, rfl⟩, rI (by rw [ex]; exact e1), rfl⟩
      | false =>
        refine b2 0 0 rfl rfl (by omega) (by omega) (fun (q : ¬ 0 = 0) => by omega) (fun _ => ?_); (conv => whnf)
        refine hP _ _ _ _ ?_; (conv => whnf)
        exact ⟨rfl, ⟨.int, rfl, rfl⟩, rI (by rw [ex]; rfl), rfl⟩
  have f13 : ∀ p : Bool, p = x.testBit a → P 13 [some (.int (nI x)), some (.int (nI a)), some (.int (nI b)), none, none] [.int (bI p)] [] := by
    intro p hp
    refine hP _ _ _ _ ?_; (conv => whnf)
    refine b1 _ (nI_bit (show b < 31 by omega)) (bit_lt (by omega)) (fun (q : x &&& 2 ^ b = 0) => ?_) (fun (q : ¬ x &&& 2 ^ b = 0) => ?_)
    · refine hP _ _ _ _ ?_; (conv => whnf)
      exact f27 p false hp (and_bit_0 q).symm
    · (conv => whnf)
      exact f27 p true hp (and_bit_1 q).symm
  refine b1 _ (nI_bit (show a < 31 by omega)) (bit_lt (by omega)) (fun (q : x &&& 2 ^ a = 0) => ?_) (fun (q : ¬ x &&& 2 ^ a = 0) => ?_)
  · refine hP _ _ _ _ ?_; (conv => whnf)
    exact f13 false (and_bit_0 q).symm
  · (conv => whnf)
    exact f13 true (and_bit_1 q).symm
/-- outside 0 .. n - 1 -/
def out (x : Int32) (n : Nat) : Prop := x < 0 ∨ nI n ≤ x
theorem in_out (x : Int32) {n : Nat} (hn : n < 2 ^ 31) : out x n ∨ ∃ j : Nat, j < n ∧ x = nI j := by
  rcases pk_ix x hn with h | h | h
  · exact Or.inl (Or.inl h)
  · exact Or.inl (Or.inr h)
  · exact Or.inr h
theorem out_lt {x : Int32} {n : Nat} {A B : Prop} (h : out x n) (f : x < 0 → A) (g : ¬ x < 0 → nI n ≤ x → B) : (cnd .lt x → A) ∧ (¬ cnd .lt x → B) := by
  refine ⟨f, fun q => g q ?_⟩
  rcases h with h | h
  · exact absurd h q
  · exact h
theorem s_checkCard {c : Nat} (hc : c < 9) : Cl (d + 1) kX5_checkCard [.int (nI c)] [] (.inl none) [] := by
  refine Cl_go e_X5_checkCard (Nat.le_of_ble_eq_true rfl) rfl ?_; intro P hP; refine hP _ _ _ _ ?_; (conv => whnf)
  refine b1 c rfl (by omega) (fun (q : c < 0) => by omega) (fun _ => ?_); (conv => whnf)
  refine b2 c 9 rfl rfl (by omega) (by omega) (fun _ => ?_) (fun (q : ¬ c < 9) => by omega)
  refine hP _ _ _ _ ?_; (conv => whnf)
  exact ⟨rfl, rfl, rfl, rfl⟩
theorem x_checkCard {x : Int32} (h : out x 9) : Cl (d + 1) kX5_checkCard [.int x] [] (.inr 0) [] := by
  refine Cl_go e_X5_checkCard (Nat.le_of_ble_eq_true rfl) rfl ?_; intro P hP; refine hP _ _ _ _ ?_; (conv => whnf)
  refine out_lt h (fun _ => ?_) (fun _ q => ?_)
  · refine hP _ _ _ _ ?_; (conv => whnf)
    exact ⟨rfl, rfl⟩
  · (conv => whnf)
    refine ⟨fun z => absurd z (Int32.not_lt.mpr q), fun _ => ?_⟩
    show P 10 _ _ _
    refine hP _ _ _ _ ?_; (conv => whnf)
    exact ⟨rfl, rfl⟩
theorem s_checkPlayer {c : Nat} (hc : c < 3) : Cl (d + 1) kX5_checkPlayer [.int (nI c)] [] (.inl none) [] := by
  refine Cl_go e_X5_checkPlayer (Nat.le_of_ble_eq_true rfl) rfl ?_; intro P hP; refine hP _ _ _ _ ?_; (conv => whnf)
  refine b1 c rfl (by omega) (fun (q : c < 0) => by omega) (fun _ => ?_); (conv => whnf)
  refine b2 c 3 rfl rfl (by omega) (by omega) (fun _ => ?_) (fun (q : ¬ c < 3) => by omega)
  refine hP _ _ _ _ ?_; (conv => whnf)
  exact ⟨rfl, rfl, rfl, rfl⟩
theorem x_checkPlayer {x : Int32} (h : out x 3) : Cl (d + 1) kX5_checkPlayer [.int x] [] (.inr 0) [] := by
  refine Cl_go e_X5_checkPlayer (Nat.le_of_ble_eq_true rfl) rfl ?_; intro P hP; refine hP _ _ _ _ ?_; (conv => whnf)
  refine out_lt h (fun _ => ?_) (fun _ q => ?_)
  · refine hP _ _ _ _ ?_; (conv => whnf)
    exact ⟨rfl, rfl⟩
  · (conv => whnf)
    refine ⟨fun z => absurd z (Int32.not_lt.mpr q), fun _ => ?_⟩
    show P 9 _ _ _
    refine hP _ _ _ _ ?_; (conv => whnf)
    exact ⟨rfl, rfl⟩
theorem s_checkPlace {c : Nat} (hc : c < 4) : Cl (d + 1) kX5_checkPlace [.int (nI c)] [] (.inl none) [] := by
  refine Cl_go e_X5_checkPlace (Nat.le_of_ble_eq_true rfl) rfl ?_; intro P hP; refine hP _ _ _ _ ?_; (conv => whnf)
  refine b1 c rfl (by omega) (fun (q : c < 0) => by omega) (fun _ => ?_); (conv => whnf)
  refine b2 c 4 rfl rfl (by omega) (by omega) (fun _ => ?_) (fun (q : ¬ c < 4) => by omega)
  refine hP _ _ _ _ ?_; (conv => whnf)
  exact ⟨rfl, rfl, rfl, rfl⟩
theorem x_checkPlace {x : Int32} (h : out x 4) : Cl (d + 1) kX5_checkPlace [.int x] [] (.inr 0) [] := by
  refine Cl_go e_X5_checkPlace (Nat.le_of_ble_eq_true rfl) rfl ?_; intro P hP; refine hP _ _ _ _ ?_; (conv => whnf)
  refine out_lt h (fun _ => ?_) (fun _ q => ?_)
  · refine hP _ _ _ _ ?_; (conv => whnf)
    exact ⟨rfl, rfl⟩
  · (conv => whnf)
    refine ⟨fun z => absurd z (Int32.not_lt.mpr q), fun _ => ?_⟩
    show P 9 _ _ _
    refine hP _ _ _ _ ?_; (conv => whnf)
    exact ⟨rfl, rfl⟩
theorem s_checkTriple {c : Nat} (hc : c < 27) : Cl (d + 1) kX5_checkTriple [.int (nI c)] [] (.inl none) [] := by
  refine Cl_go e_X5_checkTriple (Nat.le_of_ble_eq_true rfl) rfl ?_; intro P hP; refine hP _ _ _ _ ?_; (conv => whnf)
  refine b1 c rfl (by omega) (fun (q : c < 0) => by omega) (fun _ => ?_); (conv => whnf)
  refine b2 c 27 rfl rfl (by omega) (by omega) (fun _ => ?_) (fun (q : ¬ c < 27) => by omega)
  refine hP _ _ _ _ ?_; (conv => whnf)
  exact ⟨rfl, rfl, rfl, rfl⟩
theorem x_checkTriple {x : Int32} (h : out x 27) : Cl (d + 1) kX5_checkTriple [.int x] [] (.inr 0) [] := by
  refine Cl_go e_X5_checkTriple (Nat.le_of_ble_eq_true rfl) rfl ?_; intro P hP; refine hP _ _ _ _ ?_; (conv => whnf)
  refine out_lt h (fun _ => ?_) (fun _ q => ?_)
  · refine hP _ _ _ _ ?_; (conv => whnf)
    exact ⟨rfl, rfl⟩
  · (conv => whnf)
    refine ⟨fun z => absurd z (Int32.not_lt.mpr q), fun _ => ?_⟩
    show P 10 _ _ _
    refine hP _ _ _ _ ?_; (conv => whnf)
    exact ⟨rfl, rfl⟩
end X5A
