/-! the sheet of rules: small steps -/
def mapI (i : Nat) (cond : Nat → Bool) (g : Nat → Nat) (v : NA) : NA := fun c => if c < i ∧ cond c = true then g (v c) else v c
theorem mapI_0 (cond : Nat → Bool) (g : Nat → Nat) (v : NA) : mapI 0 cond g v = v := by
  funext c; exact if_neg (fun z => Nat.not_lt_zero c z.1)
theorem mapI_i (i : Nat) (cond : Nat → Bool) (g : Nat → Nat) (v : NA) : mapI i cond g v i = v i := if_neg (fun z => Nat.lt_irrefl i z.1)
theorem mapI_t {i : Nat} {cond : Nat → Bool} {g : Nat → Nat} {v : NA} (h : cond i = true) : upd (nA (mapI i cond g v)) i (nI (g (v i))) = nA (mapI (i + 1) cond g v) := by
  funext c
  unfold upd nA mapI
  by_cases hc : c = i
  · subst hc; rw [if_pos rfl, if_pos ⟨by omega, h⟩]
  · rw [if_neg hc]
    by_cases h2 : c < i ∧ cond c = true
    · rw [if_pos h2, if_pos ⟨by omega, h2.2⟩]
    · rw [if_neg h2, if_neg (fun z => h2 ⟨by omega, z.2⟩)]
theorem mapI_f {i : Nat} {cond : Nat → Bool} {g : Nat → Nat} {v : NA} (h : cond i = false) : mapI i cond g v = mapI (i + 1) cond g v := by
  funext c
  unfold mapI
  by_cases hc : c = i
  · subst hc; rw [if_neg (fun z => Nat.lt_irrefl c z.1), if_neg (fun z => by rw [h] at z; cases z.2)]
  · by_cases h2 : c < i ∧ cond c = true
    · rw [if_pos h2, if_pos ⟨by omega, h2.2⟩]
    · rw [if_neg h2, if_neg (fun z => h2 ⟨by omega, z.2⟩)]
def mkP (p : Nat → Bool) : Nat → Nat
  | 0 => 0
  | n + 1 => mkP p n ||| (bif p n then 2 ^ n else 0)
theorem mkP_lt (p : Nat → Bool) : ∀ n, mkP p n < 2 ^ n := by
  intro n
  induction n with
  | zero => exact Nat.one_pos
  | succ n ih =>
    have h2 : 2 ^ n < 2 ^ (n + 1) := Nat.pow_lt_pow_right (by decide) (Nat.lt_succ_self n)
    show mkP p n ||| (bif p n then 2 ^ n else 0) < 2 ^ (n + 1)
    refine Nat.or_lt_two_pow (by omega) ?_
    cases p n with
    | true => exact h2
    | false => exact Nat.two_pow_pos _
theorem mkP_bit (p : Nat → Bool) : ∀ n c, (mkP p n).testBit c = (decide (c < n) && p c) := by
  intro n
  induction n with
  | zero => intro c; show (0 : Nat).testBit c = _; rw [Nat.zero_testBit]; rfl
  | succ n ih =>
    intro c
    show (mkP p n ||| (bif p n then 2 ^ n else 0)).testBit c = _
    rw [Nat.testBit_or, ih]
    by_cases hc : c = n
    · subst hc
      rw [decide_eq_false (Nat.lt_irrefl c), decide_eq_true (Nat.lt_succ_self c), Bool.false_and, Bool.false_or, Bool.true_and]
      cases h : p c with
      | true => show (2 ^ c).testBit c = true; rw [Nat.testBit_two_pow]; exact decide_eq_true rfl
      | false => exact Nat.zero_testBit c
    · have e : (bif p n then 2 ^ n else 0).testBit c = false := by
        cases p n with
        | true => show (2 ^ n).testBit c = false; rw [Nat.testBit_two_pow]; exact decide_eq_false (fun z => hc z.symm)
        | false => exact Nat.zero_testBit c
      rw [e, Bool.or_false]
      by_cases h2 : c < n
      · rw [decide_eq_true h2, decide_eq_true (show c < n + 1 by omega)]
      · rw [decide_eq_false h2, decide_eq_false (show ¬ c < n + 1 by omega)]
theorem mkP_cnt (p : Nat → Bool) : pcN (mkP p 9) = (List.range 9).countP p := by
  unfold pcN cntN
  refine cnt_congr _ (fun c hc => ?_)
  rw [mkP_bit, decide_eq_true (List.mem_range.mp hc), Bool.true_and]
def mX2 (br fr : Int32) (pl : IA) : Mem := [eO 2 [.int br, .int fr, .ref 1], eI 9 pl]
theorem lose_all : (List.range 16).all (fun x => (List.range 4).all (fun p => Nat.beq (x &&& (2 ^ p ^^^ 4294967295)) (x &&& (15 - 2 ^ p)))) = true := by decide +kernel
theorem lose_ok {x p : Nat} (hx : x < 16) (hp : p < 4) : x &&& (2 ^ p ^^^ 4294967295) = x &&& (15 - 2 ^ p) :=
  Nat.eq_of_beq_eq_true (List.all_eq_true.mp (List.all_eq_true.mp lose_all x (List.mem_range.mpr hx)) p (List.mem_range.mpr hp))
theorem p2_lt {p : Nat} (hp : p < 4) : 2 ^ p < 16 := Nat.pow_lt_pow_right (by decide) hp
section X2
variable {d : Nat} {br fr : Int32} {v : NA}
theorem s_setAll {x : Int32} : Cl (d + 1) kX2_setAll [.ref 0, .int x] (mX2 br fr (nA v)) (.inl none) (mX2 br fr (cpy 9 (nA v) (fun _ => x))) := by
  refine Cl_go e_X2_setAll (Nat.le_of_ble_eq_true rfl) rfl ?_; intro P hP; refine hP _ _ _ _ ?_; conv => whnf
  have lp : ∀ (j i : Nat) (y : Int32) (N : Mem), y = nI i → i + j = 9 → N = mX2 br fr (cpy i (nA v) (fun _ => x)) → P 2 [some (.ref 0), some (.int x), some (.int y)] [] N := by
    intro j
    induction j with
    | zero =>
      intro i y N hy hi hN
      subst hN
      have hi : i = 9 := hi
      subst hi
      refine hP _ _ _ _ ?_; conv => whnf
      refine b2 9 9 hy rfl (by omega) (by omega) (fun _ => ?_) (fun (q : ¬ 9 ≤ 9) => by omega)
      refine hP _ _ _ _ ?_; conv => whnf
      exact ⟨rfl, rfl, rfl, rfl⟩
    | succ j ih =>
      intro i y N hy hi hN
      subst hN
      subst hy
      refine hP _ _ _ _ ?_; conv => whnf
      refine b2 i 9 rfl rfl (by omega) (by omega) (fun (q : 9 ≤ i) => by omega) (fun _ => ?_); conv => whnf
      refine ⟨vi rfl (show i < 9 by omega) (by decide), ?_⟩; conv => whnf
      refine ih (i + 1) _ _ (nI_1 i) (by omega) ?_
      have e : upd (cpy i (nA v) (fun _ => x)) (nI i).toNatClampNeg x = cpy (i + 1) (nA v) (fun _ => x) := by rw [nI_clamp (by omega)]; exact cpy_s i (nA v) (fun _ => x)
      rw [← e]
      rfl
  refine lp 9 0 _ _ rfl rfl ?_
  rw [cpy_0]
theorem s_keepOnly {cards place : Nat} (hc : cards < 512) (hp : place < 4) (hv : rl_ok v) : Cl (d + 1) kX2_keepOnly [.ref 0, .int (nI cards), .int (nI place)] (mX2 br fr (nA v)) (.inl none) (mX2 br fr (nA (rl_keep cards place v))) := by
  refine Cl_go e_X2_keepOnly (Nat.le_of_ble_eq_true rfl) rfl ?_; intro P hP; refine hP _ _ _ _ ?_; conv => whnf
  have lp : ∀ (j i : Nat) (x : Int32) (N : Mem), x = nI i → i + j = 9 → N = mX2 br fr (nA (mapI i (fun c => cards.testBit c) (fun x => x &&& 2 ^ place) v)) → P 2 [some (.ref 0), some (.int (nI cards)), some (.int (nI place)), some (.int x)] [] N := by
    intro j
    induction j with
    | zero =>
      intro i x N hx hi hN
      subst hN
      have hi : i = 9 := hi
      subst hi
      refine hP _ _ _ _ ?_; conv => whnf
      refine b2 9 9 hx rfl (by omega) (by omega) (fun _ => ?_) (fun (q : ¬ 9 ≤ 9) => by omega)
      refine hP _ _ _ _ ?_; conv => whnf
      exact ⟨rfl, rfl, rfl, rfl⟩
    | succ j ih =>
      intro i x N hx hi hN
      subst hN
      subst hx
      have e0 : (nI i).toNatClampNeg = i := nI_clamp (by omega)
      refine hP _ _ _ _ ?_; conv => whnf
      refine b2 i 9 rfl rfl (by omega) (by omega) (fun (q : 9 ≤ i) => by omega) (fun _ => ?_); conv => whnf
      refine b1 _ (nI_bit (show i < 31 by omega)) (bit_lt (by omega)) (fun (q : cards &&& 2 ^ i = 0) => ?_) (fun (q : ¬ cards &&& 2 ^ i = 0) => ?_)
      · refine hP _ _ _ _ ?_; conv => whnf
        refine ih (i + 1) _ _ (nI_1 i) (by omega) ?_
        rw [mapI_f (and_bit_0 q)]
      · conv => whnf
        refine ⟨vi rfl (show i < 9 by omega) (by decide), ?_⟩; conv => whnf
        refine ⟨vi rfl (show i < 9 by omega) (by decide), ?_⟩; conv => whnf
        refine hP _ _ _ _ ?_; conv => whnf
        refine ih (i + 1) _ _ (nI_1 i) (by omega) ?_
        have e : upd (nA (mapI i (fun c => cards.testBit c) (fun x => x &&& 2 ^ place) v)) (nI i).toNatClampNeg (nA (mapI i (fun c => cards.testBit c) (fun x => x &&& 2 ^ place) v) (nI i).toNatClampNeg &&& nI 1 <<< (nI place &&& 31)) = nA (mapI (i + 1) (fun c => cards.testBit c) (fun x => x &&& 2 ^ place) v) := by
          rw [e0, ← mapI_t (and_bit_1 q)]
          congr 1
          show nI (mapI i _ _ v i) &&& _ = nI (v i &&& 2 ^ place)
          rw [mapI_i]
          exact nI_bit (by omega)
        rw [← e]
        rfl
  refine lp 9 0 _ _ rfl rfl ?_
  rw [mapI_0]
theorem s_crossOff {cards place : Nat} (hc : cards < 512) (hp : place < 4) (hv : rl_ok v) : Cl (d + 1) kX2_crossOff [.ref 0, .int (nI cards), .int (nI place)] (mX2 br fr (nA v)) (.inl none) (mX2 br fr (nA (rl_lose cards place v))) := by
  refine Cl_go e_X2_crossOff (Nat.le_of_ble_eq_true rfl) rfl ?_; intro P hP; refine hP _ _ _ _ ?_; conv => whnf
  have lp : ∀ (j i : Nat) (x : Int32) (N : Mem), x = nI i → i + j = 9 → N = mX2 br fr (nA (mapI i (fun c => cards.testBit c) (fun x => x &&& (15 - 2 ^ place)) v)) → P 2 [some (.ref 0), some (.int (nI cards)), some (.int (nI place)), some (.int x)] [] N := by
    intro j
    induction j with
    | zero =>
      intro i x N hx hi hN
      subst hN
      have hi : i = 9 := hi
      subst hi
      refine hP _ _ _ _ ?_; conv => whnf
      refine b2 9 9 hx rfl (by omega) (by omega) (fun _ => ?_) (fun (q : ¬ 9 ≤ 9) => by omega)
      refine hP _ _ _ _ ?_; conv => whnf
      exact ⟨rfl, rfl, rfl, rfl⟩
    | succ j ih =>
      intro i x N hx hi hN
      subst hN
      subst hx
      have e0 : (nI i).toNatClampNeg = i := nI_clamp (by omega)
      refine hP _ _ _ _ ?_; conv => whnf
      refine b2 i 9 rfl rfl (by omega) (by omega) (fun (q : 9 ≤ i) => by omega) (fun _ => ?_); conv => whnf
      refine b1 _ (nI_bit (show i < 31 by omega)) (bit_lt (by omega)) (fun (q : cards &&& 2 ^ i = 0) => ?_) (fun (q : ¬ cards &&& 2 ^ i = 0) => ?_)
      · refine hP _ _ _ _ ?_; conv => whnf
        refine ih (i + 1) _ _ (nI_1 i) (by omega) ?_
        rw [mapI_f (and_bit_0 q)]
      · conv => whnf
        refine ⟨vi rfl (show i < 9 by omega) (by decide), ?_⟩; conv => whnf
        refine ⟨vi rfl (show i < 9 by omega) (by decide), ?_⟩; conv => whnf
        refine hP _ _ _ _ ?_; conv => whnf
        refine ih (i + 1) _ _ (nI_1 i) (by omega) ?_
        have e : upd (nA (mapI i (fun c => cards.testBit c) (fun x => x &&& (15 - 2 ^ place)) v)) (nI i).toNatClampNeg (nA (mapI i (fun c => cards.testBit c) (fun x => x &&& (15 - 2 ^ place)) v) (nI i).toNatClampNeg &&& (nI 1 <<< (nI place &&& 31) ^^^ cst (-1))) = nA (mapI (i + 1) (fun c => cards.testBit c) (fun x => x &&& (15 - 2 ^ place)) v) := by
          rw [e0, ← mapI_t (and_bit_1 q)]
          congr 1
          show nI (mapI i _ _ v i) &&& _ = nI (v i &&& (15 - 2 ^ place))
          rw [mapI_i, sh_1 (show place < 31 by omega), show cst (-1) = nI 4294967295 from rfl, nI_xor, nI_and, lose_ok (hv i (by omega)) hp]
        rw [← e]
        rfl
  refine lp 9 0 _ _ rfl rfl ?_
  rw [mapI_0]
theorem s_withPlace {cards place : Nat} (hc : cards < 512) (hp : place < 4) (hv : rl_ok v) : Cl (d + 1) kX2_withPlace [.ref 0, .int (nI cards), .int (nI place)] (mX2 br fr (nA v)) (.inl (some (.int (nI (mkP (rl_inP v cards place) 9))))) (mX2 br fr (nA v)) := by
  refine Cl_go e_X2_withPlace (Nat.le_of_ble_eq_true rfl) rfl ?_; intro P hP; refine hP _ _ _ _ ?_; conv => whnf
  have lp : ∀ (j i : Nat) (a x : Int32), x = nI i → i + j = 9 → a = nI (mkP (rl_inP v cards place) i) → P 5 [some (.ref 0), some (.int (nI cards)), some (.int (nI place)), some (.int a), some (.int x)] [] (mX2 br fr (nA v)) := by
    intro j
    induction j with
    | zero =>
      intro i a x hx hi ha
      have hi : i = 9 := hi
      subst hi
      refine hP _ _ _ _ ?_; conv => whnf
      refine b2 9 9 hx rfl (by omega) (by omega) (fun _ => ?_) (fun (q : ¬ 9 ≤ 9) => by omega)
      refine hP _ _ _ _ ?_; conv => whnf
      exact ⟨rfl, ⟨.int, rfl, rfl⟩, rI (ha), rfl⟩
    | succ j ih =>
      intro i a x hx hi ha
      subst hx
      have e0 : (nI i).toNatClampNeg = i := nI_clamp (by omega)
      have hvi := hv i (by omega)
      have e1 : nA v (nI i).toNatClampNeg &&& nI 1 <<< (nI place &&& 31) = nI (v i &&& 2 ^ place) := by rw [e0]; exact nI_bit (by omega)
      have next : rl_inP v cards place i = false → P 42 [some (.ref 0), some (.int (nI cards)), some (.int (nI place)), some (.int a), some (.int (nI i))] [] (mX2 br fr (nA v)) := by
        intro h
        refine hP _ _ _ _ ?_; conv => whnf
        refine ih (i + 1) _ _ (nI_1 i) (by omega) ?_
        rw [ha]
        show _ = nI (mkP (rl_inP v cards place) i ||| (bif rl_inP v cards place i then 2 ^ i else 0))
        rw [h]; show _ = nI (_ ||| 0); rw [Nat.or_zero]
      refine hP _ _ _ _ ?_; conv => whnf
      refine b2 i 9 rfl rfl (by omega) (by omega) (fun (q : 9 ≤ i) => by omega) (fun _ => ?_); conv => whnf
      refine b1 _ (nI_bit (show i < 31 by omega)) (bit_lt (by omega)) (fun (q : cards &&& 2 ^ i = 0) => ?_) (fun (q : ¬ cards &&& 2 ^ i = 0) => ?_)
      · exact next (by unfold rl_inP; rw [and_bit_0 q]; rfl)
      · conv => whnf
        refine ⟨vi rfl (show i < 9 by omega) (by decide), ?_⟩; conv => whnf
        refine b1 _ e1 (bit_lt (by omega)) (fun (q2 : v i &&& 2 ^ place = 0) => ?_) (fun (q2 : ¬ v i &&& 2 ^ place = 0) => ?_)
        · exact next (by unfold rl_inP; rw [and_bit_0 q2, Bool.and_false])
        · conv => whnf
          refine hP _ _ _ _ ?_; conv => whnf
          refine ih (i + 1) _ _ (nI_1 i) (by omega) ?_
          show _ = nI (mkP (rl_inP v cards place) i ||| (bif rl_inP v cards place i then 2 ^ i else 0))
          have h : rl_inP v cards place i = true := by unfold rl_inP; rw [and_bit_1 q, and_bit_1 q2]; rfl
          rw [h, ha]
          show nI _ ||| nI 1 <<< (nI i &&& 31) = _
          rw [sh_1 (show i < 31 by omega), nI_or]; rfl
  exact lp 9 0 _ _ rfl rfl rfl
theorem s_withOnly {cards place : Nat} (hc : cards < 512) (hp : place < 4) (hv : rl_ok v) : Cl (d + 1) kX2_withOnly [.ref 0, .int (nI cards), .int (nI place)] (mX2 br fr (nA v)) (.inl (some (.int (nI (mkP (rl_inO v cards place) 9))))) (mX2 br fr (nA v)) := by
  have hp2 := p2_lt hp
  refine Cl_go e_X2_withOnly (Nat.le_of_ble_eq_true rfl) rfl ?_; intro P hP; refine hP _ _ _ _ ?_; conv => whnf
  have lp : ∀ (j i : Nat) (a x : Int32), x = nI i → i + j = 9 → a = nI (mkP (rl_inO v cards place) i) → P 5 [some (.ref 0), some (.int (nI cards)), some (.int (nI place)), some (.int a), some (.int x)] [] (mX2 br fr (nA v)) := by
    intro j
    induction j with
    | zero =>
      intro i a x hx hi ha
      have hi : i = 9 := hi
      subst hi
      refine hP _ _ _ _ ?_; conv => whnf
      refine b2 9 9 hx rfl (by omega) (by omega) (fun _ => ?_) (fun (q : ¬ 9 ≤ 9) => by omega)
      refine hP _ _ _ _ ?_; conv => whnf
      exact ⟨rfl, ⟨.int, rfl, rfl⟩, rI (ha), rfl⟩
    | succ j ih =>
      intro i a x hx hi ha
      subst hx
      have e0 : (nI i).toNatClampNeg = i := nI_clamp (by omega)
      have hvi := hv i (by omega)
      have e1 : nA v (nI i).toNatClampNeg = nI (v i) := by rw [e0]; rfl
      have next : rl_inO v cards place i = false → P 41 [some (.ref 0), some (.int (nI cards)), some (.int (nI place)), some (.int a), some (.int (nI i))] [] (mX2 br fr (nA v)) := by
        intro h
        refine hP _ _ _ _ ?_; conv => whnf
        refine ih (i + 1) _ _ (nI_1 i) (by omega) ?_
        rw [ha]
        show _ = nI (mkP (rl_inO v cards place) i ||| (bif rl_inO v cards place i then 2 ^ i else 0))
        rw [h]; show _ = nI (_ ||| 0); rw [Nat.or_zero]
      refine hP _ _ _ _ ?_; conv => whnf
      refine b2 i 9 rfl rfl (by omega) (by omega) (fun (q : 9 ≤ i) => by omega) (fun _ => ?_); conv => whnf
      refine b1 _ (nI_bit (show i < 31 by omega)) (bit_lt (by omega)) (fun (q : cards &&& 2 ^ i = 0) => ?_) (fun (q : ¬ cards &&& 2 ^ i = 0) => ?_)
      · exact next (by unfold rl_inO; rw [and_bit_0 q]; rfl)
      · conv => whnf
        refine ⟨vi rfl (show i < 9 by omega) (by decide), ?_⟩; conv => whnf
        refine b2 (v i) (2 ^ place) e1 (sh_1 (by omega)) (by omega) (by omega) (fun (q2 : ¬ v i = 2 ^ place) => ?_) (fun (q2 : ¬ ¬ v i = 2 ^ place) => ?_)
        · exact next (by unfold rl_inO; rw [beq_eq_false_iff_ne.mpr q2, Bool.and_false])
        · conv => whnf
          refine hP _ _ _ _ ?_; conv => whnf
          refine ih (i + 1) _ _ (nI_1 i) (by omega) ?_
          show _ = nI (mkP (rl_inO v cards place) i ||| (bif rl_inO v cards place i then 2 ^ i else 0))
          have h : rl_inO v cards place i = true := by unfold rl_inO; rw [and_bit_1 q, Decidable.of_not_not q2]; exact beq_self_eq_true _
          rw [h, ha]
          show nI _ ||| nI 1 <<< (nI i &&& 31) = _
          rw [sh_1 (show i < 31 by omega), nI_or]; rfl
  exact lp 9 0 _ _ rfl rfl rfl
theorem mkP9 (p : Nat → Bool) : mkP p 9 < 512 := mkP_lt p 9
theorem fixP (cards place : Nat) (v : NA) : rl_keep (mkP (rl_inP v cards place) 9) place v = rl_fix cards place v := by
  funext c
  unfold rl_keep rl_fix
  rw [mkP_bit]
  by_cases hc : c < 9
  · rw [decide_eq_true hc, Bool.true_and]
  · rw [if_neg (fun z => hc z.1), if_neg (fun z => hc z.1)]
theorem barP (cards place : Nat) (v : NA) : rl_lose (cards &&& (mkP (rl_inO v cards place) 9 ^^^ 4294967295)) place v = rl_bar cards place v := by
  funext c
  unfold rl_lose rl_bar
  by_cases hc : c < 9
  · have e : (cards &&& (mkP (rl_inO v cards place) 9 ^^^ 4294967295)).testBit c = (cards.testBit c && !(v c == 2 ^ place)) := by
      rw [Nat.testBit_and, Nat.testBit_xor, mkP_bit, decide_eq_true hc, Bool.true_and, show (4294967295 : Nat) = 2 ^ 32 - 1 from rfl, Nat.testBit_two_pow_sub_one, decide_eq_true (show c < 32 by omega)]
      unfold rl_inO
      cases cards.testBit c <;> cases (v c == 2 ^ place) <;> rfl
    rw [e]
  · rw [if_neg (fun z => hc z.1), if_neg (fun z => hc z.1)]
theorem s_keepIfJust {n cards place : Nat} (hn : n < 10) (hc : cards < 512) (hp : place < 4) (hv : rl_ok v) : Cl (d + 2) kX2_keepIfJust [.ref 0, .int (nI n), .int (nI cards), .int (nI place)] (mX2 br fr (nA v)) (.inl none) (mX2 br fr (nA (rl_kj n cards place v))) := by
  have hl := pcN_lt (mkP (rl_inP v cards place) 9)
  refine Cl_go e_X2_keepIfJust (Nat.le_of_ble_eq_true rfl) rfl ?_; intro P hP; refine hP _ _ _ _ ?_; conv => whnf
  refine ⟨Nat.le_of_ble_eq_true rfl, rfl, ?_⟩; conv => whnf
  refine Or.inl ⟨_, _, s_withPlace hc hp hv, ?_⟩; conv => whnf
  refine ⟨Nat.le_of_ble_eq_true rfl, rfl, ?_⟩; conv => whnf
  refine Or.inl ⟨_, _, Cl_s (s_bitCount (mkP9 _)), ?_⟩; conv => whnf
  have hps : rl_ps v cards place = pcN (mkP (rl_inP v cards place) 9) := (mkP_cnt _).symm
  refine b2 _ n rfl rfl (by omega) (by omega) (fun (q : ¬ pcN (mkP (rl_inP v cards place) 9) = n) => ?_) (fun (q : ¬ ¬ pcN (mkP (rl_inP v cards place) 9) = n) => ?_)
  · refine hP _ _ _ _ ?_; conv => whnf
    have e : rl_kj n cards place v = v := if_neg (by rw [hps]; exact q)
    refine ⟨rfl, rfl, rfl, ?_⟩
    rw [e]
  · conv => whnf
    have e : rl_kj n cards place v = rl_keep (mkP (rl_inP v cards place) 9) place v := by rw [fixP]; exact if_pos (by rw [hps]; exact Decidable.of_not_not q)
    rw [e] at hP
    refine ⟨Nat.le_of_ble_eq_true rfl, rfl, ?_⟩; conv => whnf
    refine Or.inl ⟨_, _, s_keepOnly (mkP9 _) hp hv, ?_⟩; conv => whnf
    refine hP _ _ _ _ ?_; conv => whnf
    exact ⟨rfl, rfl, rfl, rfl⟩
theorem s_crossIfSure {n cards place : Nat} (hn : n < 10) (hc : cards < 512) (hp : place < 4) (hv : rl_ok v) : Cl (d + 2) kX2_crossIfSure [.ref 0, .int (nI n), .int (nI cards), .int (nI place)] (mX2 br fr (nA v)) (.inl none) (mX2 br fr (nA (rl_cs n cards place v))) := by
  have hl := pcN_lt (mkP (rl_inO v cards place) 9)
  refine Cl_go e_X2_crossIfSure (Nat.le_of_ble_eq_true rfl) rfl ?_; intro P hP; refine hP _ _ _ _ ?_; conv => whnf
  refine ⟨Nat.le_of_ble_eq_true rfl, rfl, ?_⟩; conv => whnf
  refine Or.inl ⟨_, _, s_withOnly hc hp hv, ?_⟩; conv => whnf
  refine ⟨Nat.le_of_ble_eq_true rfl, rfl, ?_⟩; conv => whnf
  refine Or.inl ⟨_, _, Cl_s (s_bitCount (mkP9 _)), ?_⟩; conv => whnf
  have hps : rl_on v cards place = pcN (mkP (rl_inO v cards place) 9) := (mkP_cnt _).symm
  refine b2 _ n rfl rfl (by omega) (by omega) (fun (q : ¬ pcN (mkP (rl_inO v cards place) 9) = n) => ?_) (fun (q : ¬ ¬ pcN (mkP (rl_inO v cards place) 9) = n) => ?_)
  · refine hP _ _ _ _ ?_; conv => whnf
    have e : rl_cs n cards place v = v := if_neg (by rw [hps]; exact q)
    refine ⟨rfl, rfl, rfl, ?_⟩
    rw [e]
  · conv => whnf
    have e : rl_cs n cards place v = rl_lose (cards &&& (mkP (rl_inO v cards place) 9 ^^^ 4294967295)) place v := by rw [barP]; exact if_pos (by rw [hps]; exact Decidable.of_not_not q)
    rw [e] at hP
    refine ⟨Nat.le_of_ble_eq_true rfl, rfl, ?_⟩; conv => whnf
    have hk : Cl (d + 1) kX2_crossOff [.ref 0, .int (nI cards &&& (nI (mkP (rl_inO v cards place) 9) ^^^ cst (-1))), .int (nI place)] (mX2 br fr (nA v)) (.inl none) (mX2 br fr (nA (rl_lose (cards &&& (mkP (rl_inO v cards place) 9 ^^^ 4294967295)) place v))) := by
      rw [show cst (-1) = nI 4294967295 from rfl, nI_xor, nI_and]
      exact s_crossOff (Nat.lt_of_le_of_lt Nat.and_le_left hc) hp hv
    refine Or.inl ⟨_, _, hk, ?_⟩; conv => whnf
    refine hP _ _ _ _ ?_; conv => whnf
    exact ⟨rfl, rfl, rfl, rfl⟩
theorem s_placesLeft2 (hv : rl_ok v) : Cl (d + 2) kX2_placesLeft [.ref 0] (mX2 br fr (nA v)) (.inl (some (.int (nI (rl_sum 9 v))))) (mX2 br fr (nA v)) := by
  have hpc : (List.range 16).all (fun x => Nat.beq (pcN x) (rl_pc x)) = true := by decide +kernel
  refine Cl_go e_X2_placesLeft (Nat.le_of_ble_eq_true rfl) rfl ?_; intro P hP; refine hP _ _ _ _ ?_; conv => whnf
  have lp : ∀ (j i : Nat) (a x : Int32), x = nI i → i + j = 9 → a = nI (rl_sum i v) → P 4 [some (.ref 0), some (.int a), some (.int x)] [] (mX2 br fr (nA v)) := by
    intro j
    induction j with
    | zero =>
      intro i a x hx hi ha
      have hi : i = 9 := hi
      subst hi
      refine hP _ _ _ _ ?_; conv => whnf
      refine b2 9 9 hx rfl (by omega) (by omega) (fun _ => ?_) (fun (q : ¬ 9 ≤ 9) => by omega)
      refine hP _ _ _ _ ?_; conv => whnf
      exact ⟨rfl, ⟨.int, rfl, rfl⟩, rI (ha), rfl⟩
    | succ j ih =>
      intro i a x hx hi ha
      subst hx
      have hvi := hv i (by omega)
      refine hP _ _ _ _ ?_; conv => whnf
      refine b2 i 9 rfl rfl (by omega) (by omega) (fun (q : 9 ≤ i) => by omega) (fun _ => ?_); conv => whnf
      refine ⟨vi rfl (show i < 9 by omega) (by decide), ?_⟩; conv => whnf
      refine ⟨Nat.le_of_ble_eq_true rfl, rfl, ?_⟩; conv => whnf
      have hk : Cl (d + 1) kJ6_bitCount_0f7a4 [.int (nA v (nI i).toNatClampNeg)] (mX2 br fr (nA v)) (.inl (some (.int (nI (pcN (v i)))))) (mX2 br fr (nA v)) := by
        rw [nI_clamp (by omega)]; exact Cl_s (s_bitCount (by omega))
      refine Or.inl ⟨_, _, hk, ?_⟩; conv => whnf
      refine ih (i + 1) _ _ (nI_1 i) (by omega) ?_
      rw [ha]
      show _ = nI (rl_sum i v + rl_pc (v i))
      rw [← Nat.eq_of_beq_eq_true (List.all_eq_true.mp hpc (v i) (List.mem_range.mpr hvi)), ← nI_add]
  exact lp 9 0 _ _ rfl rfl rfl
theorem s_fits {n cards place : Nat} (hn : n < 10) (hc : cards < 512) (hp : place < 4) (hv : rl_ok v) : Cl (d + 2) kX2_fits [.ref 0, .int (nI n), .int (nI cards), .int (nI place)] (mX2 br fr (nA v)) (.inl (some (.int (bI (Nat.ble n (rl_ps v cards place) && Nat.ble (rl_on v cards place) n))))) (mX2 br fr (nA v)) := by
  have hl := pcN_lt (mkP (rl_inP v cards place) 9)
  have hl2 := pcN_lt (mkP (rl_inO v cards place) 9)
  have hps : rl_ps v cards place = pcN (mkP (rl_inP v cards place) 9) := (mkP_cnt _).symm
  have hon : rl_on v cards place = pcN (mkP (rl_inO v cards place) 9) := (mkP_cnt _).symm
  refine Cl_go e_X2_fits (Nat.le_of_ble_eq_true rfl) rfl ?_; intro P hP; refine hP _ _ _ _ ?_; conv => whnf
  refine ⟨Nat.le_of_ble_eq_true rfl, rfl, ?_⟩; conv => whnf
  refine Or.inl ⟨_, _, s_withPlace hc hp hv, ?_⟩; conv => whnf
  refine ⟨Nat.le_of_ble_eq_true rfl, rfl, ?_⟩; conv => whnf
  refine Or.inl ⟨_, _, Cl_s (s_bitCount (mkP9 _)), ?_⟩; conv => whnf
  refine b2 _ n rfl rfl (by omega) (by omega) (fun (q : pcN (mkP (rl_inP v cards place) 9) < n) => ?_) (fun (q : ¬ pcN (mkP (rl_inP v cards place) 9) < n) => ?_)
  · refine hP _ _ _ _ ?_; conv => whnf
    refine hP _ _ _ _ ?_; conv => whnf
    have e : Nat.ble n (rl_ps v cards place) = false := by
      cases h : Nat.ble n (rl_ps v cards place) with
      | false => rfl
      | true => have := Nat.le_of_ble_eq_true h; omega
    exact ⟨rfl, ⟨.boolean, rfl, rfl⟩, rI (by rw [e]; rfl), rfl⟩
  · conv => whnf
    have e : Nat.ble n (rl_ps v cards place) = true := Nat.ble_eq_true_of_le (by omega)
    rw [e] at hP
    refine ⟨Nat.le_of_ble_eq_true rfl, rfl, ?_⟩; conv => whnf
    refine Or.inl ⟨_, _, s_withOnly hc hp hv, ?_⟩; conv => whnf
    refine ⟨Nat.le_of_ble_eq_true rfl, rfl, ?_⟩; conv => whnf
    refine Or.inl ⟨_, _, Cl_s (s_bitCount (mkP9 _)), ?_⟩; conv => whnf
    refine b2 _ n rfl rfl (by omega) (by omega) (fun (q2 : n < pcN (mkP (rl_inO v cards place) 9)) => ?_) (fun (q2 : ¬ n < pcN (mkP (rl_inO v cards place) 9)) => ?_)
    · refine hP _ _ _ _ ?_; conv => whnf
      refine hP _ _ _ _ ?_; conv => whnf
      have e2 : Nat.ble (rl_on v cards place) n = false := by
        cases h : Nat.ble (rl_on v cards place) n with
        | false => rfl
        | true => have := Nat.le_of_ble_eq_true h; omega
      exact ⟨rfl, ⟨.boolean, rfl, rfl⟩, rI (by rw [e2]; rfl), rfl⟩
    · conv => whnf
      refine hP _ _ _ _ ?_; conv => whnf
      have e2 : Nat.ble (rl_on v cards place) n = true := Nat.ble_eq_true_of_le (by omega)
      exact ⟨rfl, ⟨.boolean, rfl, rfl⟩, rI (by rw [e2]; rfl), rfl⟩
/-- the only place, or none -/
def opl (x : Nat) : Int32 := if x = 1 then nI 0 else if x = 2 then nI 1 else if x = 4 then nI 2 else if x = 8 then nI 3 else cst (-1)
def oplG (x : Nat) : Nat → Nat → Int32
  | 0, _ => cst (-1)
  | n + 1, i => if x = 2 ^ i then nI i else oplG x n (i + 1)
theorem s_onlyPlace {c : Nat} (hc : c < 9) (hv : rl_ok v) : Cl (d + 1) kX2_onlyPlace [.ref 0, .int (nI c)] (mX2 br fr (nA v)) (.inl (some (.int (oplG (v c) 4 0)))) (mX2 br fr (nA v)) := by
  have e0 : nA v (nI c).toNatClampNeg = nI (v c) := by rw [nI_clamp (by omega)]; rfl
  have hvc := hv c hc
  refine Cl_go e_X2_onlyPlace (Nat.le_of_ble_eq_true rfl) rfl ?_; intro P hP; refine hP _ _ _ _ ?_; conv => whnf
  have lp : ∀ (j i : Nat) (x : Int32), x = nI i → i + j = 4 → oplG (v c) j i = oplG (v c) 4 0 → P 2 [some (.ref 0), some (.int (nI c)), some (.int x)] [] (mX2 br fr (nA v)) := by
    intro j
    induction j with
    | zero =>
      intro i x hx hi he
      have hi : i = 4 := hi
      subst hi
      refine hP _ _ _ _ ?_; conv => whnf
      refine b2 4 4 hx rfl (by omega) (by omega) (fun _ => ?_) (fun (q : ¬ 4 ≤ 4) => by omega)
      refine hP _ _ _ _ ?_; conv => whnf
      exact ⟨rfl, ⟨.int, rfl, rfl⟩, rI (he), rfl⟩
    | succ j ih =>
      intro i x hx hi he
      subst hx
      have hp2 := p2_lt (show i < 4 by omega)
      refine hP _ _ _ _ ?_; conv => whnf
      refine b2 i 4 rfl rfl (by omega) (by omega) (fun (q : 4 ≤ i) => by omega) (fun _ => ?_); conv => whnf
      refine b1 c rfl (by omega) (fun (h : c < 0) => by omega) (fun _ => ?_); conv => whnf
      refine b2 c 9 rfl rfl (by omega) (by omega) (fun (h : 9 ≤ c) => by omega) (fun _ => ?_); conv => whnf
      refine ⟨vi rfl hc (by decide), ?_⟩; conv => whnf
      refine b2 (v c) (2 ^ i) e0 (sh_1 (by omega)) (by omega) (by omega) (fun (q2 : ¬ v c = 2 ^ i) => ?_) (fun (q2 : ¬ ¬ v c = 2 ^ i) => ?_)
      · refine hP _ _ _ _ ?_; conv => whnf
        refine ih (i + 1) _ (nI_1 i) (by omega) ?_
        rw [← he]; exact (if_neg q2).symm
      · conv => whnf
        exact ⟨rfl, ⟨.int, rfl, rfl⟩, rI (by rw [← he]; exact (if_pos (Decidable.of_not_not q2)).symm), rfl⟩
  exact lp 4 0 _ rfl rfl rfl
end X2
