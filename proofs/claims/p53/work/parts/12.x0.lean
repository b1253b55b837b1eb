/-! the counter of deals: small sums, the cells, one deal judged -/
def bcE (x : Int32) : Int32 :=
  let us := fun (x y : Int32) => (x.toUInt32 >>> (y.toUInt32 &&& Int32.toUInt32 31)).toInt32
  let a := x - (us x (nI 1) &&& Int32.ofNat 1431655765)
  let b := (a &&& Int32.ofNat 858993459) + (us a (nI 2) &&& Int32.ofNat 858993459)
  let c := (b + us b (nI 4)) &&& Int32.ofNat 252645135
  let e := c + us c (nI 8)
  let f := e + us e (nI 16)
  f &&& nI 63
def pcN (x : Nat) : Nat := cntN (fun c => x.testBit c) 9
set_option maxRecDepth 100000 in
theorem bc_all : (List.range 512).all (fun x => decide (bcE (nI x) = nI (pcN x))) = true := by decide +kernel
theorem bc_ok {x : Nat} (h : x < 512) : bcE (nI x) = nI (pcN x) := of_decide_eq_true (List.all_eq_true.mp bc_all x (List.mem_range.mpr h))
theorem s_bitCount {d x : Nat} (h : x < 512) : Cl (d + 1) kJ6_bitCount_0f7a4 [.int (nI x)] [] (.inl (some (.int (nI (pcN x))))) [] := by
  refine Cl_go e_J6_bitCount_0f7a4 (Nat.le_of_ble_eq_true rfl) rfl ?_; intro P hP; refine hP _ _ _ _ ?_; (conv => whnf)
  exact ⟨rfl, ⟨.int, rfl, rfl⟩, rI (bc_ok h), rfl⟩
theorem s_mask {d a b c : Nat} (ha : a < 31) (hb : b < 31) (hc : c < 31) : Cl (d + 1) kX5_mask [.int (nI a), .int (nI b), .int (nI c)] [] (.inl (some (.int (nI (2 ^ a ||| 2 ^ b ||| 2 ^ c))))) [] := by
  refine Cl_go e_X5_mask (Nat.le_of_ble_eq_true rfl) rfl ?_; intro P hP; refine hP _ _ _ _ ?_; (conv => whnf)
  have e : (nI 1 <<< (nI a &&& 31) ||| nI 1 <<< (nI b &&& 31)) ||| nI 1 <<< (nI c &&& 31) = nI (2 ^ a ||| 2 ^ b ||| 2 ^ c) := by rw [sh_1 ha, sh_1 hb, sh_1 hc, nI_or, nI_or]
  exact ⟨rfl, ⟨.int, rfl, rfl⟩, rI (e), rfl⟩
theorem s_cardsOfKind {d k : Nat} (hk : k < 3) : Cl (d + 1) kX5_cardsOfKind [.int (nI k)] [] (.inl (some (.int (nI (dq_kind k))))) [] := by
  refine Cl_go e_X5_cardsOfKind (Nat.le_of_ble_eq_true rfl) rfl ?_; intro P hP; refine hP _ _ _ _ ?_; (conv => whnf)
  have e : nI 7 <<< ((nI 3 * nI k) &&& 31) = nI (7 * 8 ^ k) := by rw [pk_mul]; exact sh_7 hk
  exact ⟨rfl, ⟨.int, rfl, rfl⟩, rI (e), rfl⟩
theorem mask_all : (List.range 27).all (fun t => Nat.beq (2 ^ (t / 9) ||| 2 ^ (3 + t / 3 % 3) ||| 2 ^ (6 + t % 3)) (dq_mask t)) = true := by decide +kernel
theorem mask_or {t : Nat} (h : t < 27) : 2 ^ (t / 9) ||| 2 ^ (3 + t / 3 % 3) ||| 2 ^ (6 + t % 3) = dq_mask t := Nat.eq_of_beq_eq_true (List.all_eq_true.mp mask_all t (List.mem_range.mpr h))
theorem s_cardsOfTriple {d t : Nat} (ht : t < 27) : Cl (d + 2) kX5_cardsOfTriple [.int (nI t)] [] (.inl (some (.int (nI (dq_mask t))))) [] := by
  have e1 : nI t / nI 9 = nI (t / 9) := pk_div (by omega) (by decide) (by decide)
  have e2 : nI t / nI 3 = nI (t / 3) := pk_div (by omega) (by decide) (by decide)
  have e3 : nI (t / 3) - nI (t / 3) / nI 3 * nI 3 = nI (t / 3 % 3) := pk_rem (by omega) (by decide) (by decide)
  have e4 : nI t - nI t / nI 3 * nI 3 = nI (t % 3) := pk_rem (by omega) (by decide) (by decide)
  have e5 : nI 3 + (nI t / nI 3 - nI t / nI 3 / nI 3 * nI 3) = nI (3 + t / 3 % 3) := by rw [e2, e3, nI_add]
  have e6 : nI 6 + (nI t - nI t / nI 3 * nI 3) = nI (6 + t % 3) := by rw [e4, nI_add]
  refine Cl_go e_X5_cardsOfTriple (Nat.le_of_ble_eq_true rfl) rfl ?_; intro P hP; refine hP _ _ _ _ ?_; (conv => whnf)
  refine ⟨by decide, ?_⟩; (conv => whnf)
  refine ⟨by decide, ?_⟩; (conv => whnf)
  refine ⟨by decide, ?_⟩; (conv => whnf)
  refine ⟨by decide, ?_⟩; (conv => whnf)
  refine ⟨Nat.le_of_ble_eq_true rfl, rfl, ?_⟩; (conv => whnf)
  have hc : Cl (d + 1) kX5_mask [.int (nI t / nI 9), .int (nI 3 + (nI t / nI 3 - nI t / nI 3 / nI 3 * nI 3)), .int (nI 6 + (nI t - nI t / nI 3 * nI 3))] [] (.inl (some (.int (nI (dq_mask t))))) [] := by
    rw [e1, e5, e6, ← mask_or ht]
    exact s_mask (by omega) (by omega) (by omega)
  refine Or.inl ⟨_, _, hc, ?_⟩; (conv => whnf)
  exact ⟨rfl, ⟨.int, rfl, rfl⟩, rfl, rfl⟩
abbrev NA : Type := Nat → Nat
def nA (f : NA) : IA := fun j => nI (f j)
/-- any row of numbers is such a row -/
theorem nA_any (f : IA) : ∃ g : NA, f = nA g := by
  refine ⟨fun j => (f j).toBitVec.toNat, ?_⟩
  funext j
  unfold nA nI
  apply Int32.toBitVec_inj.mp
  show (f j).toBitVec = BitVec.ofNat 32 (f j).toBitVec.toNat
  rw [BitVec.ofNat_toNat, BitVec.setWidth_eq]
def clrN (n : Nat) (f : IA) : IA := fun j => if j < n then nI 0 else f j
theorem s_clear {d n : Nat} {f : IA} (hn : n < 2 ^ 31) : Cl (d + 1) kX0_clear [.ref 0] [eI n f] (.inl none) [eI n (clrN n f)] := by
  refine Cl_go e_X0_clear (Nat.le_of_ble_eq_true rfl) rfl ?_; intro P hP; refine hP _ _ _ _ ?_; (conv => whnf)
  have lp : ∀ (j i : Nat) (x : Int32) (N : Mem), x = nI i → i + j = n → N = [eI n (clrN i f)] → P 2 [some (.ref 0), some (.int x)] [] N := by
    intro j
    induction j with
    | zero =>
      intro i x N hx hi hN
      subst hN
      have hi : i = n := hi
      subst hi
      refine hP _ _ _ _ ?_; (conv => whnf)
      refine b2 i i hx rfl (by omega) (by omega) (fun _ => ?_) (fun (q : ¬ i ≤ i) => by omega)
      refine hP _ _ _ _ ?_; (conv => whnf)
      exact ⟨rfl, rfl, rfl, rfl⟩
    | succ j ih =>
      intro i x N hx hi hN
      subst hN
      subst hx
      have e0 : (nI i).toNatClampNeg = i := nI_clamp (by omega)
      refine hP _ _ _ _ ?_; (conv => whnf)
      refine b2 i n rfl rfl (by omega) (by omega) (fun (q : n ≤ i) => by omega) (fun _ => ?_); (conv => whnf)
      refine ⟨vi rfl (show i < n by omega) (by omega), ?_⟩; (conv => whnf)
      refine ih (i + 1) _ _ (nI_1 i) (by omega) ?_
      have e : upd (clrN i f) (nI i).toNatClampNeg (nI 0) = clrN (i + 1) f := by
        rw [e0]; exact cpy_s i f (fun _ => nI 0)
      rw [← e]
      rfl
  refine lp n 0 _ _ rfl (by omega) ?_
  have e : clrN 0 f = f := cpy_0 f (fun _ => nI 0)
  rw [e]
def mX0 (tot fr : Int32) (ca ie wh hb so : IA) : Mem := [eO 0 [.int tot, .int fr, .ref 1, .ref 2, .ref 3, .ref 4, .ref 5], eI 36 ca, eI 27 ie, eI 1536 wh, eI 20 hb, eI 4 so]
/-- one deal more -/
def caB (k : Nat) (h f : NA) : NA := fun j => f j + (if j < k ∧ (h (j % 4)).testBit (j / 4) = true then 1 else 0)
def bt1 (x i : Nat) : Nat := if x.testBit i = true then 1 else 0
theorem bt1_all : (List.range 512).all (fun x => (List.range 9).all (fun i => decide ((nI x >>> (nI i &&& 31)) &&& nI 1 = nI (bt1 x i)))) = true := by decide +kernel
theorem bt1_ok {x i : Nat} (hx : x < 512) (hi : i < 9) : (nI x >>> (nI i &&& 31)) &&& nI 1 = nI (bt1 x i) := of_decide_eq_true (List.all_eq_true.mp (List.all_eq_true.mp bt1_all x (List.mem_range.mpr hx)) i (List.mem_range.mpr hi))
def whI (i : Nat) (h : NA) (f : NA) : NA := fun j => f j + (if j / 512 < i ∧ h (j / 512) = j % 512 then 1 else 0)
def inc1 (k : Nat) (f : NA) : NA := fun j => f j + (if j = k then 1 else 0)
theorem upd_inc {k : Nat} {f g : NA} (hg : ∀ j, g j = f j + (if j = k then 1 else 0)) : upd (nA f) k (nA f k + nI 1) = nA g := by
  funext j
  unfold upd nA
  by_cases h : j = k
  · rw [if_pos h, hg j, if_pos h, nI_add, h]
  · rw [if_neg h, hg j, if_neg h]; rfl
theorem caB_s {i p : Nat} {h f : NA} (hp : p < 4) : upd (nA (caB (4 * i + p) h f)) (4 * i + p) (nA (caB (4 * i + p) h f) (4 * i + p) + nI (bt1 (h p) i)) = nA (caB (4 * i + p + 1) h f) := by
  funext j
  unfold upd nA
  by_cases hj : j = 4 * i + p
  · rw [if_pos hj, nI_add]
    refine congrArg nI ?_
    have h1 : (4 * i + p) / 4 = i := by omega
    have h2 : (4 * i + p) % 4 = p := by omega
    unfold caB bt1
    rw [hj, h1, h2, if_neg (fun z => Nat.lt_irrefl _ z.1), Nat.add_zero]
    by_cases hb : (h p).testBit i = true
    · rw [if_pos hb, if_pos ⟨Nat.lt_succ_self _, hb⟩]
    · rw [if_neg hb, if_neg (fun z => hb z.2)]
  · rw [if_neg hj]
    refine congrArg nI ?_
    unfold caB
    by_cases h2 : j < 4 * i + p ∧ (h (j % 4)).testBit (j / 4) = true
    · rw [if_pos h2, if_pos ⟨by omega, h2.2⟩]
    · rw [if_neg h2, if_neg (fun z => h2 ⟨by omega, z.2⟩)]
theorem whI_s {i : Nat} {h f : NA} (hq : h i < 512) : upd (nA (whI i h f)) (512 * i + h i) (nA (whI i h f) (512 * i + h i) + nI 1) = nA (whI (i + 1) h f) := by
  refine upd_inc (fun j => ?_)
  unfold whI
  by_cases hj : j = 512 * i + h i
  · have h1 : j / 512 = i := by omega
    have h2 : j % 512 = h i := by omega
    rw [if_pos hj, if_pos ⟨by omega, by rw [h1, h2]⟩, if_neg (by omega)]
  · rw [if_neg hj]
    by_cases h2 : j / 512 < i ∧ h (j / 512) = j % 512
    · rw [if_pos h2, if_pos ⟨by omega, h2.2⟩]
    · rw [if_neg h2, if_neg (fun z => by
        by_cases h3 : j / 512 = i
        · rw [h3] at z; omega
        · exact h2 ⟨by omega, z.2⟩)]
theorem caB_0 (h f : NA) : caB 0 h f = f := by
  funext j; unfold caB; rw [if_neg (fun z => absurd z.1 (Nat.not_lt_zero j))]; rfl
theorem whI_0 (q f : NA) : whI 0 q f = f := by
  funext j; unfold whI; rw [if_neg (by omega)]; rfl
theorem and511 {x : Nat} (h : x < 512) : nI x &&& cst 511 = nI x := by
  rw [show cst 511 = nI 511 from rfl, nI_and]
  have e : x &&& 511 = x % 2 ^ 9 := Nat.and_two_pow_sub_one_eq_mod x 9
  rw [e, Nat.mod_eq_of_lt h]
theorem s_include {d t T : Nat} {fr : Int32} {ca ie wh h : NA} {hb so : IA} (ht : t < 27) (hs : ∀ p, p < 4 → so p = nI (h p) ∧ h p < 512) :
    Cl (d + 1) kX0_include [.ref 0, .int (nI t)] (mX0 (nI T) fr (nA ca) (nA ie) (nA wh) hb so) (.inl none) (mX0 (nI (T + 1)) fr (nA (caB 36 h ca)) (nA (inc1 t ie)) (nA (whI 3 h wh)) hb so) := by
  refine Cl_go e_X0_include (Nat.le_of_ble_eq_true rfl) rfl ?_; intro P hP; refine hP _ _ _ _ ?_; (conv => whnf)
  refine ⟨⟨rfl, rfl⟩, ?_⟩; (conv => whnf)
  have l2 : ∀ (j i : Nat) (x : Int32) (N : Mem), x = nI i → i + j = 3 → N = mX0 (nI (T + 1)) fr (nA (caB 36 h ca)) (nA (inc1 t ie)) (nA (whI i h wh)) hb so → P 82 [some (.ref 0), none, some (.int x), none] [] N := by
    intro j
    induction j with
    | zero =>
      intro i x N hx hi hN
      subst hN
      have hi : i = 3 := hi
      subst hi
      refine hP _ _ _ _ ?_; (conv => whnf)
      refine b2 3 3 hx rfl (by omega) (by omega) (fun _ => ?_) (fun (q : ¬ 3 ≤ 3) => by omega)
      refine hP _ _ _ _ ?_; (conv => whnf)
      exact ⟨rfl, rfl, rfl, rfl⟩
    | succ j ih =>
      intro i x N hx hi hN
      subst hN
      subst hx
      have e0 : (nI i).toNatClampNeg = i := nI_clamp (by omega)
      have e1 : nI i * cst 512 + (so (nI i).toNatClampNeg &&& cst 511) = nI (512 * i + h i) := by
        rw [e0, (hs i (by omega)).1, and511 (hs i (by omega)).2, show cst 512 = nI 512 from rfl, pk_mul, nI_add, Nat.mul_comm]
      have hh := (hs i (by omega)).2
      have e2 : (nI i * cst 512 + (so (nI i).toNatClampNeg &&& cst 511)).toNatClampNeg = 512 * i + h i := by rw [e1]; exact nI_clamp (by omega)
      refine hP _ _ _ _ ?_; (conv => whnf)
      refine b2 i 3 rfl rfl (by omega) (by omega) (fun (q : 3 ≤ i) => by omega) (fun _ => ?_); (conv => whnf)
      refine ⟨vi rfl (show i < 4 by omega) (by decide), ?_⟩; (conv => whnf)
      refine ⟨vi e1 (show 512 * i + h i < 1536 by omega) (by decide), ?_⟩; (conv => whnf)
      refine ⟨vi e1 (show 512 * i + h i < 1536 by omega) (by decide), ?_⟩; (conv => whnf)
      refine ih (i + 1) _ _ (nI_1 i) (by omega) ?_
      have e : upd (nA (whI i h wh)) (nI i * cst 512 + (so (nI i).toNatClampNeg &&& cst 511)).toNatClampNeg (nA (whI i h wh) (nI i * cst 512 + (so (nI i).toNatClampNeg &&& cst 511)).toNatClampNeg + cst 1) = nA (whI (i + 1) h wh) := by
        rw [e2]; exact whI_s hh
      rw [← e]
      rfl
  have l1 : ∀ (j i : Nat) (x : Int32) (N : Mem), x = nI i → i + j = 9 → N = mX0 (nI (T + 1)) fr (nA (caB (4 * i) h ca)) (nA ie) (nA wh) hb so → P 12 [some (.ref 0), some (.int (nI t)), some (.int x), none] [] N := by
    intro j
    induction j with
    | zero =>
      intro i x N hx hi hN
      subst hN
      have hi : i = 9 := hi
      subst hi
      refine hP _ _ _ _ ?_; (conv => whnf)
      refine b2 9 9 hx rfl (by omega) (by omega) (fun _ => ?_) (fun (q : ¬ 9 ≤ 9) => by omega)
      refine hP _ _ _ _ ?_; (conv => whnf)
      refine b1 t rfl (by omega) (fun (q : t < 0) => by omega) (fun _ => ?_); (conv => whnf)
      refine b2 t 27 rfl rfl (by omega) (by omega) (fun (q : 27 ≤ t) => by omega) (fun _ => ?_); (conv => whnf)
      refine ⟨vi rfl ht (by decide), ?_⟩; (conv => whnf)
      refine ⟨vi rfl ht (by decide), ?_⟩; (conv => whnf)
      refine hP _ _ _ _ ?_; (conv => whnf)
      refine l2 3 0 _ _ rfl rfl ?_
      rw [whI_0]
      have e0 : (nI t).toNatClampNeg = t := nI_clamp (by omega)
      have e : upd (nA ie) (nI t).toNatClampNeg (nA ie (nI t).toNatClampNeg + cst 1) = nA (inc1 t ie) := by rw [e0]; exact upd_inc (fun j => rfl)
      rw [← e]
      rfl
    | succ j ih =>
      intro i x N hx hi hN
      subst hN
      subst hx
      have inn : ∀ (n p : Nat) (y : Int32) (N : Mem), y = nI p → p + n = 4 → N = mX0 (nI (T + 1)) fr (nA (caB (4 * i + p) h ca)) (nA ie) (nA wh) hb so → P 20 [some (.ref 0), some (.int (nI t)), some (.int (nI i)), some (.int y)] [] N := by
        intro n
        induction n with
        | zero =>
          intro p y N hy hp hN
          subst hN
          have hp : p = 4 := hp
          subst hp
          refine hP _ _ _ _ ?_; (conv => whnf)
          refine b2 4 4 hy rfl (by omega) (by omega) (fun _ => ?_) (fun (q : ¬ 4 ≤ 4) => by omega)
          refine hP _ _ _ _ ?_; (conv => whnf)
          exact ih (i + 1) _ _ (nI_1 i) (by omega) rfl
        | succ n ih2 =>
          intro p y N hy hp hN
          subst hN
          subst hy
          have e0 : (nI p).toNatClampNeg = p := nI_clamp (by omega)
          have e1 : nI i * cst 4 + nI p = nI (4 * i + p) := by
            rw [show cst 4 = nI 4 from rfl, pk_mul, nI_add, Nat.mul_comm]
          have e2 : (nI i * cst 4 + nI p).toNatClampNeg = 4 * i + p := by rw [e1]; exact nI_clamp (by omega)
          have e3 : (so (nI p).toNatClampNeg >>> (nI i &&& 31)) &&& cst 1 = nI (bt1 (h p) i) := by
            rw [e0, (hs p (by omega)).1, show cst 1 = nI 1 from rfl]; exact bt1_ok (hs p (by omega)).2 (by omega)
          refine hP _ _ _ _ ?_; (conv => whnf)
          refine b2 p 4 rfl rfl (by omega) (by omega) (fun (q : 4 ≤ p) => by omega) (fun _ => ?_); (conv => whnf)
          refine ⟨vi e1 (show 4 * i + p < 36 by omega) (by decide), ?_⟩; (conv => whnf)
          refine ⟨vi rfl (show p < 4 by omega) (by decide), ?_⟩; (conv => whnf)
          refine ⟨vi e1 (show 4 * i + p < 36 by omega) (by decide), ?_⟩; (conv => whnf)
          refine ih2 (p + 1) _ _ (nI_1 p) (by omega) ?_
          have e : upd (nA (caB (4 * i + p) h ca)) (nI i * cst 4 + nI p).toNatClampNeg (nA (caB (4 * i + p) h ca) (nI i * cst 4 + nI p).toNatClampNeg + ((so (nI p).toNatClampNeg >>> (nI i &&& 31)) &&& cst 1)) = nA (caB (4 * i + (p + 1)) h ca) := by
            rw [e2, e3]; exact caB_s (by omega)
          rw [← e]
          rfl
      refine hP _ _ _ _ ?_; (conv => whnf)
      refine b2 i 9 rfl rfl (by omega) (by omega) (fun (q : 9 ≤ i) => by omega) (fun _ => ?_); (conv => whnf)
      exact inn 4 0 _ _ rfl rfl rfl
  refine l1 9 0 _ _ rfl rfl ?_
  rw [show 4 * 0 = 0 from rfl, caB_0, ← nI_1]
  rfl
/-- with a state's clues beside -/
def mXS (tot fr : Int32) (ca ie wh hb so : IA) (kd pl cd : IA) (cnt prt why : Int32) : Mem :=
  [eO 0 [.int tot, .int fr, .ref 1, .ref 2, .ref 3, .ref 4, .ref 5], eI 36 ca, eI 27 ie, eI 1536 wh, eI 20 hb, eI 4 so, eO 3 [.ref 10, .ref 7, .ref 8, .ref 9, .int cnt, .int prt, .int why], eI 20 kd, eI 20 pl, eI 20 cd]
/-- the clues with which a deal does not agree, up to the i-th -/
def agD (cl : List rl_C) (m k : Nat) : Bool := match cl[k]? with
  | some x => agN x (dq_hn m x.2.1 &&& x.2.2)
  | none => true
def bdD (cl : List rl_C) (m i : Nat) : List Nat := (List.range i).filter (fun k => !agD cl m k)
theorem bdD_s (cl : List rl_C) (m i : Nat) : bdD cl m (i + 1) = bdD cl m i ++ (bif agD cl m i then [] else [i]) := by
  unfold bdD
  rw [List.range_succ, List.filter_append]
  congr 1
  cases h : agD cl m i with
  | true => rw [List.filter_cons, h]; rfl
  | false => rw [List.filter_cons, h]; rfl
theorem bdD_app (cl : List rl_C) (m : Nat) : ∀ (j i : Nat), ∃ l, bdD cl m (i + j) = bdD cl m i ++ l := by
  intro j
  induction j with
  | zero => intro i; exact ⟨[], (List.append_nil _).symm⟩
  | succ j ih =>
    intro i
    obtain ⟨l, h⟩ := ih i
    exact ⟨l ++ (bif agD cl m (i + j) then [] else [i + j]), by rw [← Nat.add_assoc, bdD_s, h, List.append_assoc]⟩
abbrev CT : Type := Nat × (NA × (NA × (NA × NA)))
/-- what a deal adds to the counts: t: its triple, m: its number -/
def ct_in (t m : Nat) (c : CT) : CT := (c.1 + 1, fun j => c.2.1 j + (if j / 4 < 9 ∧ (dq_hn m (j % 4)).testBit (j / 4) = true then 1 else 0), inc1 t c.2.2.1, whI 3 (dq_hn m) c.2.2.2.1, c.2.2.2.2)
def ct_jd (cl : List rl_C) (x : Nat × Nat) (c : CT) : CT := match bdD cl x.2 cl.length with
  | [] => ct_in x.1 x.2 c
  | [k] => (c.1, c.2.1, c.2.2.1, c.2.2.2.1, inc1 k c.2.2.2.2)
  | _ => c
def mCT (c : CT) (fr : Int32) (so : IA) (kd pl cd : IA) (cnt prt why : Int32) : Mem := mXS (nI c.1) fr (nA c.2.1) (nA c.2.2.1) (nA c.2.2.2.1) (nA c.2.2.2.2) so kd pl cd cnt prt why
def okC (cl : List rl_C) : Prop := ∀ x ∈ cl, x.1 < 6 ∧ x.2.1 < 4 ∧ x.2.2 < 512
theorem hn_lt (m p : Nat) : dq_hn m p < 512 := Nat.mod_lt _ (by decide)
section JUDGE
variable {d : Nat} {fr : Int32} {so kd pl cd : IA} {prt why : Int32}
theorem s_judge {cl : List rl_C} {t m : Nat} {ct : CT} (hc : clM cl kd pl cd) (hn : cl.length ≤ 20) (ok : okC cl) (ht : t < 27) (hs : ∀ p, p < 4 → so p = nI (dq_hn m p)) :
    Cl (d + 2) kX0_judge [.ref 0, .int (nI t), .ref 6] (mCT ct fr so kd pl cd (nI cl.length) prt why) (.inl none) (mCT (ct_jd cl (t, m) ct) fr so kd pl cd (nI cl.length) prt why) := by
  refine Cl_go e_X0_judge (Nat.le_of_ble_eq_true rfl) rfl ?_; intro P hP; refine hP _ _ _ _ ?_; (conv => whnf)
  have k0 : bdD cl m cl.length = [] → ∀ y : Int32, P 48 [some (.ref 0), some (.int (nI t)), none, some (.int (nI 0)), some (.int y), none] [] (mCT ct fr so kd pl cd (nI cl.length) prt why) := by
    intro hb y
    refine hP _ _ _ _ ?_; (conv => whnf)
    refine b1 0 rfl (by omega) (fun (q : ¬ 0 = 0) => by omega) (fun _ => ?_); (conv => whnf)
    refine ⟨Nat.le_of_ble_eq_true rfl, rfl, ?_⟩; (conv => whnf)
    have e : ct_jd cl (t, m) ct = ct_in t m ct := by unfold ct_jd; rw [hb]
    rw [e] at hP
    have ec : caB 36 (dq_hn m) ct.2.1 = fun j => ct.2.1 j + (if j / 4 < 9 ∧ (dq_hn m (j % 4)).testBit (j / 4) = true then 1 else 0) := by
      funext j
      unfold caB
      by_cases h : j / 4 < 9 ∧ (dq_hn m (j % 4)).testBit (j / 4) = true
      · rw [if_pos h, if_pos ⟨by omega, h.2⟩]
      · rw [if_neg h, if_neg (fun z => h ⟨by omega, z.2⟩)]
    refine Or.inl ⟨_, _, Cl_wr [0, 1, 2, 3, 4, 5] (s_include (h := dq_hn m) (T := ct.1) (ca := ct.2.1) (ie := ct.2.2.1) (wh := ct.2.2.2.1) ht (fun p hp => ⟨hs p hp, hn_lt m p⟩)) 6 rfl rfl ⟨rfl, rfl, rfl, rfl, rfl, rfl, trivial⟩ (mCT (ct_in t m ct) fr so kd pl cd (nI cl.length) prt why) (by rw [ec]; rfl), ?_⟩; (conv => whnf)
    refine hP _ _ _ _ ?_; (conv => whnf)
    exact ⟨rfl, rfl, rfl, rfl⟩
  have k1 : ∀ (k : Nat) (y : Int32), bdD cl m cl.length = [k] → k < cl.length → y = nI k → P 48 [some (.ref 0), some (.int (nI t)), none, some (.int (nI 1)), some (.int y), none] [] (mCT ct fr so kd pl cd (nI cl.length) prt why) := by
    intro k y hb hk hy
    subst hy
    refine hP _ _ _ _ ?_; (conv => whnf)
    refine b1 1 rfl (by omega) (fun _ => ?_) (fun (q : ¬ ¬ 1 = 0) => by omega)
    refine hP _ _ _ _ ?_; (conv => whnf)
    refine b2 1 1 rfl rfl (by omega) (by omega) (fun (q : ¬ 1 = 1) => by omega) (fun _ => ?_); (conv => whnf)
    refine b2 k 20 rfl rfl (by omega) (by omega) (fun (q : 20 ≤ k) => by omega) (fun _ => ?_); (conv => whnf)
    refine ⟨vi rfl (show k < 20 by omega) (by decide), ?_⟩; (conv => whnf)
    refine ⟨vi rfl (show k < 20 by omega) (by decide), ?_⟩; (conv => whnf)
    refine hP _ _ _ _ ?_; (conv => whnf)
    have e : ct_jd cl (t, m) ct = (ct.1, ct.2.1, ct.2.2.1, ct.2.2.2.1, inc1 k ct.2.2.2.2) := by unfold ct_jd; rw [hb]
    have e0 : (nI k).toNatClampNeg = k := nI_clamp (by omega)
    have e2 : upd (nA ct.2.2.2.2) (nI k).toNatClampNeg (nA ct.2.2.2.2 (nI k).toNatClampNeg + cst 1) = nA (inc1 k ct.2.2.2.2) := by rw [e0]; exact upd_inc (fun j => rfl)
    refine ⟨rfl, rfl, rfl, ?_⟩
    rw [e]
    show _ = mXS (nI ct.1) fr (nA ct.2.1) (nA ct.2.2.1) (nA ct.2.2.2.1) (nA (inc1 k ct.2.2.2.2)) so kd pl cd (nI cl.length) prt why
    rw [← e2]
    rfl
  have k2 : ∀ (y : Int32), (∃ a b l, bdD cl m cl.length = a :: b :: l) → P 48 [some (.ref 0), some (.int (nI t)), none, some (.int (nI 2)), some (.int y), none] [] (mCT ct fr so kd pl cd (nI cl.length) prt why) := by
    intro y ⟨a, b, l, hb⟩
    refine hP _ _ _ _ ?_; (conv => whnf)
    refine b1 2 rfl (by omega) (fun _ => ?_) (fun (q : ¬ ¬ 2 = 0) => by omega)
    refine hP _ _ _ _ ?_; (conv => whnf)
    refine b2 2 1 rfl rfl (by omega) (by omega) (fun _ => ?_) (fun (q : ¬ ¬ 2 = 1) => by omega)
    refine hP _ _ _ _ ?_; (conv => whnf)
    have e : ct_jd cl (t, m) ct = ct := by unfold ct_jd; rw [hb]
    refine ⟨rfl, rfl, rfl, ?_⟩
    rw [e]
  have lp : ∀ (j i : Nat) (x a y : Int32), x = nI i → i + j = cl.length → ((a = nI 0 ∧ bdD cl m i = []) ∨ (∃ k, k < i ∧ a = nI 1 ∧ y = nI k ∧ bdD cl m i = [k]) ∨ (a = nI 2 ∧ ∃ u v, bdD cl m i = [u, v])) →
      P 8 [some (.ref 0), some (.int (nI t)), some (.ref 6), some (.int a), some (.int y), some (.int x)] [] (mCT ct fr so kd pl cd (nI cl.length) prt why) := by
    intro j
    induction j with
    | zero =>
      intro i x a y hx hi h
      subst hx
      have hi : i = cl.length := hi
      refine hP _ _ _ _ ?_; (conv => whnf)
      refine b2 i cl.length rfl rfl (by omega) (by omega) (fun _ => ?_) (fun (q : ¬ cl.length ≤ i) => by omega)
      rcases h with ⟨h1, h2⟩ | ⟨k, hk, h1, h2, h3⟩ | ⟨h1, u, v, h2⟩
      · subst h1; rw [hi] at h2; exact k0 h2 y
      · subst h1; rw [hi] at h3; exact k1 k y h3 (by omega) h2
      · subst h1; rw [hi] at h2; exact k2 y ⟨u, v, [], h2⟩
    | succ j ih =>
      intro i x a y hx hi h
      subst hx
      have hg : cl[i]? = some cl[i] := List.getElem?_eq_getElem (by omega)
      have hm := ok _ (List.mem_of_getElem? hg)
      have hag : agD cl m i = agN cl[i] (dq_hn m cl[i].2.1 &&& cl[i].2.2) := by unfold agD; rw [hg]
      have hbs := bdD_s cl m i
      refine hP _ _ _ _ ?_; (conv => whnf)
      refine b2 i cl.length rfl rfl (by omega) (by omega) (fun (q : cl.length ≤ i) => by omega) (fun _ => ?_); (conv => whnf)
      have step : ∀ av : Nat, a = nI av → av < 2 → (agN cl[i] (dq_hn m cl[i].2.1 &&& cl[i].2.2) = true → P 42 [some (.ref 0), some (.int (nI t)), some (.ref 6), some (.int a), some (.int y), some (.int (nI i))] [] (mCT ct fr so kd pl cd (nI cl.length) prt why)) →
          (agN cl[i] (dq_hn m cl[i].2.1 &&& cl[i].2.2) = false → P 42 [some (.ref 0), some (.int (nI t)), some (.ref 6), some (.int (a + cst 1)), some (.int (nI i)), some (.int (nI i))] [] (mCT ct fr so kd pl cd (nI cl.length) prt why)) →
          wI (Cl (d + 1)) (fun r' N' => r' = Sum.inl none ∧ N' = mCT (ct_jd cl (t, m) ct) fr so kd pl cd (nI cl.length) prt why) none P (fnd pgX0_judge 17) [some (.ref 0), some (.int (nI t)), some (.ref 6), some (.int a), some (.int y), some (.int (nI i))] [] (mCT ct fr so kd pl cd (nI cl.length) prt why) := by
        intro av ha hav g1 g2
        conv => whnf
        refine b2 av 2 ha rfl (by omega) (by omega) (fun (q : 2 ≤ av) => by omega) (fun _ => ?_); (conv => whnf)
        refine ⟨Nat.le_of_ble_eq_true rfl, rfl, ?_⟩; (conv => whnf)
        refine Or.inl ⟨_, _, Cl_rd [6, 7, 8, 9, 5, 10] (s_agrees (so := so) (cnt := nI cl.length) (prt := prt) (why := why) (by omega) (hc i _ hg) hm (hs _ hm.2.1) (hn_lt _ _)) 5 rfl rfl ⟨rfl, rfl, rfl, rfl, rfl, trivial⟩, ?_⟩; (conv => whnf)
        cases hb : agN cl[i] (dq_hn m cl[i].2.1 &&& cl[i].2.2) with
        | true =>
          refine b1 1 rfl (by omega) (fun _ => ?_) (fun (q : ¬ ¬ 1 = 0) => by omega)
          exact g1 hb
        | false =>
          refine b1 0 rfl (by omega) (fun (q : ¬ 0 = 0) => by omega) (fun _ => ?_); (conv => whnf)
          exact g2 hb
      rcases h with ⟨h1, h2⟩ | ⟨k, hk, h1, h2, h3⟩ | ⟨h1, u, v, h2⟩
      · refine step 0 h1 (by omega) (fun hb => ?_) (fun hb => ?_)
        · refine hP _ _ _ _ ?_; (conv => whnf)
          refine ih (i + 1) _ _ _ (nI_1 i) (by omega) (Or.inl ⟨h1, ?_⟩)
          rw [hbs, h2, hag, hb]; rfl
        · refine hP _ _ _ _ ?_; (conv => whnf)
          refine ih (i + 1) _ _ _ (nI_1 i) (by omega) (Or.inr (Or.inl ⟨i, by omega, by rw [h1]; rfl, rfl, ?_⟩))
          rw [hbs, h2, hag, hb]; rfl
      · refine step 1 h1 (by omega) (fun hb => ?_) (fun hb => ?_)
        · refine hP _ _ _ _ ?_; (conv => whnf)
          refine ih (i + 1) _ _ _ (nI_1 i) (by omega) (Or.inr (Or.inl ⟨k, by omega, h1, h2, ?_⟩))
          rw [hbs, h3, hag, hb]; rfl
        · refine hP _ _ _ _ ?_; (conv => whnf)
          refine ih (i + 1) _ _ _ (nI_1 i) (by omega) (Or.inr (Or.inr ⟨by rw [h1]; rfl, k, i, ?_⟩))
          rw [hbs, h3, hag, hb]; rfl
      · subst h1
        refine b2 2 2 rfl rfl (by omega) (by omega) (fun _ => ?_) (fun (q : ¬ 2 ≤ 2) => by omega)
        obtain ⟨l, hl⟩ := bdD_app cl m (j + 1) i
        exact k2 y ⟨u, v, l, by rw [← hi, hl, h2]; rfl⟩
  exact lp cl.length 0 _ _ _ rfl (by omega) (Or.inl ⟨rfl, rfl⟩)
end JUDGE
