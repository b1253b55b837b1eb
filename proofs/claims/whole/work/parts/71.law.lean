/-! the law's own methods: a small interpreter with the law's script, and what its rows are on the machine -/
abbrev LK : Type := Nat → Lcs → List Value → Mem → Prop
def lS (VC : Nat → List Value → Mem → Option Value → Mem → Prop) (XX : Nat → List Value → Mem → Prop) (SC : Nat → List Value → Mem → Int32 → Mem → Prop) (RR : List Value → Mem → Prop) (wn : Nat → Nat) (sn : Nat) (sx : Nat → Int32) (P : Nat → LK) (pc a : Nat) (i : Instr) (t : Nat) (L : Lcs) (S : List Value) (M : Mem) (K : LK) : Prop :=
  match i with
  | .iconst n => K t L (.int (cst n) :: S) M
  | .bipush n => K t L (.int (cst n) :: S) M
  | .lconst n => K t L (.long (Int64.ofNat n.val) :: S) M
  | .iload_n n => ldI L n.val fun x => K t L (.int x :: S) M
  | .iload n => ldI L n fun x => K t L (.int x :: S) M
  | .dload n => ldD L n fun x => K t L (.double x :: S) M
  | .aload_n n => ldA L n.val fun x => K t L (.ref x :: S) M
  | .aload n => ldA L n fun x => K t L (.ref x :: S) M
  | .istore n => stI S fun x r => K t (stor L n (.int x)) r M
  | .dstore n => stD S fun x r => K t (stor L n (.double x)) r M
  | .iinc n z => ldI L n fun x => K t (stor L n (.int (x + cst z))) S M
  | .iadd => o2 (· + ·) S fun S' => K t L S' M
  | .isub => o2 (· - ·) S fun S' => K t L S' M
  | .iand => o2 (· &&& ·) S fun S' => K t L S' M
  | .i2l => stI S fun x r => K t L (.long x.toInt64 :: r) M
  | .dcmp op => stD S fun y r => stD r fun x r' => K t L (.int (Op.cmpValue (FP.dcmp x y) op) :: r') M
  | .lcmp => stJ S fun y r => stJ r fun x r' => K t L (.int (lg_cmp x y) :: r') M
  | .ifCond c _ => stI S fun x r => (cnd c x → P a t L r M) ∧ (¬ cnd c x → K t L r M)
  | .if_icmp c _ => stI S fun y r => stI r fun x r' => (cnd2 c x y → P a t L r' M) ∧ (¬ cnd2 c x y → K t L r' M)
  | .goto _ => P a t L S M
  | .tableswitch d lo hi offs => stI S fun x r => (x.toInt < lo ∨ hi < x.toInt → P ((pc : Int) + d).toNat t L r M) ∧ tsw (fun q => P q t L r M) pc x.toInt offs.toList lo
  | .arraylength => match S with
    | .ref o :: r => o = 99 ∧ K t L (.int (nI sn) :: r) M
    | _ => False
  | .iaload => match S with
    | .int j :: .ref o :: r => o = 99 ∧ vp_in j sn ∧ K t L (.int (sx j.toNatClampNeg) :: r) M
    | _ => False
  | .laload => stI S fun i r => stA r fun o r' => gtJ M o fun n f => vp_in i n ∧ K t L (.long (f i.toNatClampNeg) :: r') M
  | .lastore => stJ S fun x q => stI q fun i r => stA r fun o r' => gtJ M o fun n f => vp_in i n ∧ K t L r' (mset M o (eJ n (vp_updL f i.toNatClampNeg x)))
  | .invokevirtual _ => stA (S.drop (mN a)) fun b r => gtO M b fun ci _ => bif ci == mC a then t < 601 ∧ csum r ≤ 8 ∧ (S.take (mN a)).length = mN a ∧ ((∃ v M', VC a (.ref b :: (S.take (mN a)).reverse) M v M' ∧ K t L (v.toList ++ r) M') ∨ XX a (.ref b :: (S.take (mN a)).reverse) M) else False
  | .invokestatic _ => t < 600 ∧ csum (S.drop (wn a)) ≤ 8 ∧ (S.take (wn a)).length = wn a ∧ ∃ x M', SC a (S.take (wn a)).reverse M x M' ∧ K (t + 1) L (.int x :: S.drop (wn a)) M'
  | .ireturn => t < 601 ∧ RR S M
  | _ => False
def lW (VC : Nat → List Value → Mem → Option Value → Mem → Prop) (XX : Nat → List Value → Mem → Prop) (SC : Nat → List Value → Mem → Int32 → Mem → Prop) (RR : List Value → Mem → Prop) (wn : Nat → Nat) (sn : Nat) (sx : Nat → Int32) (P : Nat → LK) : List En → LK
  | [], _, _, _, _ => False
  | (pc, i, _, a) :: r, t, L, S, M => lS VC XX SC RR wn sn sx P pc a i t L S M (fun t' L' S' M' => lW VC XX SC RR wn sn sx P r t' L' S' M')
def lplain : Instr → Bool
  | .invokevirtual _ => false | .invokestatic _ => false | .ireturn => false | _ => true
/-- what is checked of a row: with the places of its words -/
def lchk (ml : Nat) (own : String) (q : Nat) (i : Instr) (a : Nat) (ps : List Nat) : Bool :=
  match i with
  | .iconst n => decide (Int32.ofInt n = cst n)
  | .bipush n => decide ((Int8.ofInt n).toInt32 = cst n)
  | .ifCond _ off => decide ((q : Int) + off = (a : Int))
  | .if_icmp _ off => decide ((q : Int) + off = (a : Int))
  | .goto off => decide ((q : Int) + off = (a : Int))
  | .tableswitch dflt lo hi offs => decide (0 ≤ (q : Int) + dflt) && tgs q offs.toList && decide (offs.toList.length = (hi - lo + 1).toNat) && decide (-2147483648 ≤ lo ∧ hi ≤ 2147483647 ∧ lo ≤ hi)
  | .istore n => decide (n < ml)
  | .dstore n => decide (n + 1 < ml)
  | .iinc n z => decide (n < ml) && decide (Int32.ofInt z = cst z)
  | .invokevirtual index => decide (a < nM) && wd (psn ps 0) (.methodLink own index (mY a)) && wd (psn ps 1) (.instanceMethod (mY a)) && wd (psn ps 2) (.selects (mY a).cls (mY a) (mY a)) && wd (psn ps 3) (.initialized (mY a).cls)
    && decide ((vwCl[mC a]?).map (fun r => r.1) = some (mY a).cls)
  | _ => true
def chL (cb : ByteArray) (ml : Nat) (own : String) : List En → List (List Nat) → Nat → Bool
  | [], _, _ => true
  | (pc, i, len, a) :: r, pss, q => decide (pc = q) && decide (decode cb pc = .ok (i, len)) && (ilen i == 0 || ilen i == len) && lchk ml own pc i a (pss.headD []) && chL cb ml own r pss.tail (pc + len)
section LSTEP
variable {p : Program} {l : Launch} {e : Jvm.Env} {R : Room} {s : State} {m : MethodId} {args : Array Value} {below : List Frame} {meth : Method} {c : Code} {c0 s0 uc n0 ml : Nat} {Q : State → Prop} {E : Env4} {A : Nat → Prop} {H0 : Heap} {cb : ByteArray} {own : String}
/-- what a walk leans on -/
def LB (p : Program) (s : State) (m : MethodId) (args : Array Value) (c : Code) (cb : ByteArray) (ml : Nat) (own : String) (E : Env4) : Prop :=
  p.tables.exec = Jvm.exec ∧ c.code = cb ∧ c.maxLocals = ml ∧ (∀ w ∈ TT, w.before args s = true) ∧ s.vm.findClass own = some m.cls ∧ va_K E.1 vwCl (tysE E) s ∧ (∀ w ∈ nwords, va_Nw w s) ∧ (∀ w ∈ xwords, va_Nw w s) ∧ (∀ q ∈ xstrs, ∃ sa, vk_R "AlibiDeals" q.1 q.2 sa s)
def LW (p : Program) (l : Launch) (e : Jvm.Env) (R : Room) (s : State) (m : MethodId) (args : Array Value) (below : List Frame) (meth : Method) (c : Code) (c0 s0 uc : Nat) (Q : State → Prop) (ml n0 : Nat) (E : Env4) (A : Nat → Prop) (H0 : Heap) (pc t : Nat) (L : Lcs) (S : List Value) (M : Mem) : Prop :=
  ∀ (ls : Array Slot) (H : Heap) (locs : List Loc), lv_has ls ml (lcl E.2.2.2.2 0 L) → va_P E.1 vwCl (wzf E 0 M) H → va_D A (wzf E 0 M) → va_S A H0 H locs → M.length = n0 →
    W p l e R s m args below meth c H locs (c0 + uc * t) (s0 + 6 * (uc * t)) Q (F0 m pc ls (S.map (trV E.2.2.2.2)))
/-- the script, outside the world -/
def LX (s : State) (E : Env4) (A : Nat → Prop) (H0 : Heap) (sn : Nat) (sx : Nat → Int32) : Prop := va_X (E.2.2.2.2 99) sn sx s H0 ∧ E.2.2.2.2 99 < H0.size ∧ ¬ A (E.2.2.2.2 99)
variable {VC : Nat → List Value → Mem → Option Value → Mem → Prop} {XX : Nat → List Value → Mem → Prop} {SC : Nat → List Value → Mem → Int32 → Mem → Prop} {RR : List Value → Mem → Prop} {wn : Nat → Nat} {sn : Nat} {sx : Nat → Int32}
set_option maxHeartbeats 4000000 in
theorem lp (B : LB p s m args c cb ml own E) {pc len a t : Nat} {i : Instr} {ps : List Nat} {P : Nat → LK} {K : LK} {L : Lcs} {S : List Value} {M : Mem}
    (hpl : lplain i = true) (hdec : decode cb pc = .ok (i, len)) (hlen : (ilen i == 0 || ilen i == len) = true) (hchk : lchk ml own pc i a ps = true) (h : lS VC XX SC RR wn sn sx P pc a i t L S M K)
    (hX : (i = .iaload ∨ i = .arraylength) → LX s E A H0 sn sx)
    (hP : ∀ (pc t : Nat) (L : Lcs) (S : List Value) (M : Mem), P pc t L S M → LW p l e R s m args below meth c c0 s0 uc Q ml n0 E A H0 pc t L S M)
    (hk : ∀ (t : Nat) (L : Lcs) (S : List Value) (M : Mem), K t L S M → LW p l e R s m args below meth c c0 s0 uc Q ml n0 E A H0 (pc + len) t L S M) :
    LW p l e R s m args below meth c c0 s0 uc Q ml n0 E A H0 pc t L S M := by
  intro ls H locs hl hw hD hS hn
  obtain ⟨hx, hb, hml, hts, hown, hK, -, -, -⟩ := B
  cases i
  all_goals first
    | exact Bool.noConfusion hpl
    | exact absurd hpl (by decide)
    | exact False.elim h
    | skip
  case iconst n =>
    have hl1 : len = 1 := il_of hlen rfl (by decide)
    subst hl1
    have hc := of_decide_eq_true hchk
    exact lv_iconst hx hb hdec hc (hk _ _ _ _ h ls H locs hl hw hD hS hn)
  case bipush n =>
    have hl1 : len = 2 := il_of hlen rfl (by decide)
    subst hl1
    have hc := of_decide_eq_true hchk
    exact lv_bipush hx hb hdec hc (hk _ _ _ _ h ls H locs hl hw hD hS hn)
  case lconst n =>
    have hl1 : len = 1 := il_of hlen rfl (by decide)
    subst hl1
    exact lv_lconst hx hb hdec rfl (hk _ _ _ _ h ls H locs hl hw hD hS hn)
  case iload_n n =>
    have hl1 : len = 1 := il_of hlen rfl (by decide)
    subst hl1
    obtain ⟨x, hg, h⟩ := ldI_inv h
    exact lv_iload_n hx hb hdec rfl (lv_get hl hg) (hk _ _ _ _ h ls H locs hl hw hD hS hn)
  case iload n =>
    have hl1 : len = 2 := il_of hlen rfl (by decide)
    subst hl1
    obtain ⟨x, hg, h⟩ := ldI_inv h
    exact lv_iload hx hb hdec (lv_get hl hg) (hk _ _ _ _ h ls H locs hl hw hD hS hn)
  case dload n =>
    have hl1 : len = 2 := il_of hlen rfl (by decide)
    subst hl1
    obtain ⟨x, hg, h⟩ := ldD_inv h
    exact lv_dload hx hb hdec (lv_get hl hg) (hk _ _ _ _ h ls H locs hl hw hD hS hn)
  case aload_n n =>
    have hl1 : len = 1 := il_of hlen rfl (by decide)
    subst hl1
    obtain ⟨x, hg, h⟩ := ldA_inv h
    exact lv_aload_n hx hb hdec rfl (lv_get hl hg) (hk _ _ _ _ h ls H locs hl hw hD hS hn)
  case aload n =>
    have hl1 : len = 2 := il_of hlen rfl (by decide)
    subst hl1
    obtain ⟨x, hg, h⟩ := ldA_inv h
    exact lv_aload hx hb hdec (lv_get hl hg) (hk _ _ _ _ h ls H locs hl hw hD hS hn)
  case istore n =>
    have hl1 : len = 2 := il_of hlen rfl (by decide)
    subst hl1
    obtain ⟨x, r, rfl, h⟩ := stI_inv h
    have hc := of_decide_eq_true hchk
    exact lv_istore hx hb hdec hl hc rfl (fun ls2 hl2 => hk _ _ _ _ h ls2 H locs (lv_mono hl2 (stor_sub1)) hw hD hS hn)
  case dstore n =>
    have hl1 : len = 2 := il_of hlen rfl (by decide)
    subst hl1
    obtain ⟨x, r, rfl, h⟩ := stD_inv h
    have hc := of_decide_eq_true hchk
    exact lv_dstore hx hb hdec hl hc rfl (fun ls2 hl2 => hk _ _ _ _ h ls2 H locs (lv_mono hl2 (stor_sub2 rfl)) hw hD hS hn)
  case iinc n z =>
    have hl1 : len = 3 := il_of hlen rfl (by decide)
    subst hl1
    obtain ⟨x, hg, h⟩ := ldI_inv h
    have hc : (decide (n < ml) && decide (Int32.ofInt z = cst z)) = true := hchk
    rw [Bool.and_eq_true] at hc
    have hc1 := of_decide_eq_true hc.1
    have hc2 := of_decide_eq_true hc.2
    have hm := mem_lcl E.2.2.2.2 L 0 n _ hg
    rw [Nat.zero_add] at hm
    obtain ⟨q, hq⟩ := List.getElem?_of_mem hm
    exact lv_iinc hx hb hdec hl hq (by rw [hc2]) hc1 rfl (fun ls2 hl2 => hk _ _ _ _ h ls2 H locs (lv_mono hl2 (stor_sub1 (v := .int _))) hw hD hS hn)
  case iadd =>
    have hl1 : len = 1 := il_of hlen rfl (by decide)
    subst hl1
    obtain ⟨x, y, r, rfl, h⟩ := o2_inv (K := fun S' => K t L S' M) h
    exact lv_iadd hx hb hdec (hk _ _ _ _ h ls H locs hl hw hD hS hn)
  case isub =>
    have hl1 : len = 1 := il_of hlen rfl (by decide)
    subst hl1
    obtain ⟨x, y, r, rfl, h⟩ := o2_inv (K := fun S' => K t L S' M) h
    exact lv_isub hx hb hdec (hk _ _ _ _ h ls H locs hl hw hD hS hn)
  case iand =>
    have hl1 : len = 1 := il_of hlen rfl (by decide)
    subst hl1
    obtain ⟨x, y, r, rfl, h⟩ := o2_inv (K := fun S' => K t L S' M) h
    exact lv_iand hx hb hdec (hk _ _ _ _ h ls H locs hl hw hD hS hn)
  case i2l =>
    have hl1 : len = 1 := il_of hlen rfl (by decide)
    subst hl1
    obtain ⟨x, r, rfl, h⟩ := stI_inv h
    exact lv_i2l hx hb hdec rfl (hk _ _ _ _ h ls H locs hl hw hD hS hn)
  case dcmp op =>
    have hl1 : len = 1 := il_of hlen rfl (by decide)
    subst hl1
    obtain ⟨y, r, rfl, h⟩ := stD_inv h
    obtain ⟨x, r, rfl, h⟩ := stD_inv h
    exact lv_dcmp hx hb hdec (hk _ _ _ _ h ls H locs hl hw hD hS hn)
  case lcmp =>
    have hl1 : len = 1 := il_of hlen rfl (by decide)
    subst hl1
    obtain ⟨y, r, rfl, h⟩ := stJ_inv h
    obtain ⟨x, r, rfl, h⟩ := stJ_inv h
    exact W.lcmp hx hb hdec (hk _ _ _ _ h ls H locs hl hw hD hS hn)
  case ifCond cc off =>
    have hl1 : len = 3 := il_of hlen rfl (by decide)
    subst hl1
    obtain ⟨x, r, rfl, h⟩ := stI_inv h
    have ht := of_decide_eq_true hchk
    cases cc with
    | eq => exact lv_if_eq hx hb hdec ht (fun z => hP _ _ _ _ _ (h.1 z) ls H locs hl hw hD hS hn) (fun z => hk _ _ _ _ (h.2 z) ls H locs hl hw hD hS hn)
    | ne => exact lv_if_ne hx hb hdec ht (fun z => hP _ _ _ _ _ (h.1 z) ls H locs hl hw hD hS hn) (fun z => hk _ _ _ _ (h.2 (fun q => q z)) ls H locs hl hw hD hS hn)
    | lt => exact lv_if_lt hx hb hdec ht (fun z => hP _ _ _ _ _ (h.1 z) ls H locs hl hw hD hS hn) (fun z => hk _ _ _ _ (h.2 z) ls H locs hl hw hD hS hn)
    | ge => exact lv_if_ge hx hb hdec ht (fun z => hP _ _ _ _ _ (h.1 z) ls H locs hl hw hD hS hn) (fun z => hk _ _ _ _ (h.2 z) ls H locs hl hw hD hS hn)
    | gt => exact lv_if_gt hx hb hdec ht (fun z => hP _ _ _ _ _ (h.1 z) ls H locs hl hw hD hS hn) (fun z => hk _ _ _ _ (h.2 z) ls H locs hl hw hD hS hn)
    | le => exact lv_if_le hx hb hdec ht (fun z => hP _ _ _ _ _ (h.1 z) ls H locs hl hw hD hS hn) (fun z => hk _ _ _ _ (h.2 z) ls H locs hl hw hD hS hn)
  case if_icmp cc off =>
    have hl1 : len = 3 := il_of hlen rfl (by decide)
    subst hl1
    obtain ⟨y, r, rfl, h⟩ := stI_inv h
    obtain ⟨x, r, rfl, h⟩ := stI_inv h
    have ht := of_decide_eq_true hchk
    cases cc with
    | eq => exact lv_icmp_eq hx hb hdec ht (fun z => hP _ _ _ _ _ (h.1 z) ls H locs hl hw hD hS hn) (fun z => hk _ _ _ _ (h.2 z) ls H locs hl hw hD hS hn)
    | ne => exact lv_icmp_ne hx hb hdec ht (fun z => hP _ _ _ _ _ (h.1 z) ls H locs hl hw hD hS hn) (fun z => hk _ _ _ _ (h.2 (fun q => q z)) ls H locs hl hw hD hS hn)
    | lt => exact lv_icmp_lt hx hb hdec ht (fun z => hP _ _ _ _ _ (h.1 z) ls H locs hl hw hD hS hn) (fun z => hk _ _ _ _ (h.2 z) ls H locs hl hw hD hS hn)
    | ge => exact lv_icmp_ge hx hb hdec ht (fun z => hP _ _ _ _ _ (h.1 z) ls H locs hl hw hD hS hn) (fun z => hk _ _ _ _ (h.2 z) ls H locs hl hw hD hS hn)
    | gt => exact lv_icmp_gt hx hb hdec ht (fun z => hP _ _ _ _ _ (h.1 z) ls H locs hl hw hD hS hn) (fun z => hk _ _ _ _ (h.2 z) ls H locs hl hw hD hS hn)
    | le => exact lv_icmp_le hx hb hdec ht (fun z => hP _ _ _ _ _ (h.1 z) ls H locs hl hw hD hS hn) (fun z => hk _ _ _ _ (h.2 z) ls H locs hl hw hD hS hn)
  case goto off =>
    have hl1 : len = 3 := il_of hlen rfl (by decide)
    subst hl1
    have ht := of_decide_eq_true hchk
    exact lv_goto hx hb hdec ht (hP _ _ _ _ _ h ls H locs hl hw hD hS hn)
  case tableswitch d lo hi offs =>
    obtain ⟨x, r, rfl, h⟩ := stI_inv h
    have hc : (decide (0 ≤ (pc : Int) + d) && tgs pc offs.toList && decide (offs.toList.length = (hi - lo + 1).toNat) && decide (-2147483648 ≤ lo ∧ hi ≤ 2147483647 ∧ lo ≤ hi)) = true := hchk
    simp only [Bool.and_eq_true, decide_eq_true_eq] at hc
    obtain ⟨⟨⟨c1, c2⟩, c3⟩, c4⟩ := hc
    by_cases ho : x.toInt < lo ∨ hi < x.toInt
    · exact lv_tableOut hx hb hdec ho (by omega) (hP _ _ _ _ _ (h.1 ho) ls H locs hl hw hD hS hn)
    · have o1 : ¬ x.toInt < lo := fun q => ho (Or.inl q)
      have o2 : ¬ hi < x.toInt := fun q => ho (Or.inr q)
      have hj : (x.toInt - lo).toNat < offs.toList.length := by omega
      have hg : offs.toList[(x.toInt - lo).toNat]? = some offs.toList[(x.toInt - lo).toNat] := List.getElem?_eq_getElem hj
      have hz := tsw_get offs.toList lo _ _ h.2 hg (by omega)
      have hq := tgs_of c2 (List.mem_of_getElem? hg)
      exact lv_tableIn hx hb hdec o1 o2 (by rw [← Array.getElem?_toList]; exact hg) (by omega) (hP _ _ _ _ _ hz ls H locs hl hw hD hS hn)
  case arraylength =>
    have hl1 : len = 1 := il_of hlen rfl (by decide)
    subst hl1
    match S, h with
    | .ref o :: r, h =>
      obtain ⟨rfl, h⟩ := h
      obtain ⟨x1, x2, x3⟩ := hX (Or.inr rfl)
      exact va_slen hx hb x1 x2 x3 hS hdec (hk _ _ _ _ h ls H locs hl hw hD hS hn)
  case iaload =>
    have hl1 : len = 1 := il_of hlen rfl (by decide)
    subst hl1
    match S, h with
    | .int j :: .ref o :: r, h =>
      obtain ⟨rfl, hi, h⟩ := h
      obtain ⟨x1, x2, x3⟩ := hX (Or.inl rfl)
      exact va_sld hx hb x1 x2 x3 hS hi hdec (hk _ _ _ _ h ls H locs hl hw hD hS hn)
  case laload =>
    have hl1 : len = 1 := il_of hlen rfl (by decide)
    subst hl1
    obtain ⟨i, r, rfl, h⟩ := stI_inv h
    obtain ⟨o, r, rfl, h⟩ := stA_inv h
    obtain ⟨n, f, hm, hi, h⟩ := gtJ_inv h
    exact va_lald hx hb hK hw o 1 (wz_get hm) rfl hi hdec (hk _ _ _ _ h ls H locs hl hw hD hS hn)
  case lastore =>
    have hl1 : len = 1 := il_of hlen rfl (by decide)
    subst hl1
    obtain ⟨x, r, rfl, h⟩ := stJ_inv h
    obtain ⟨i, r, rfl, h⟩ := stI_inv h
    obtain ⟨o, r, rfl, h⟩ := stA_inv h
    obtain ⟨n, f, hm, hi, h⟩ := gtJ_inv h
    refine va_last hx hb hK hw hD hS o 1 (wz_get hm) rfl hi hdec (fun H1 locs1 p1 d1 s1 => ?_)
    have he := wz_set E M o (eJ n (vp_updL f i.toNatClampNeg x))
    exact hk _ _ _ _ h ls H1 locs1 hl (he ▸ p1) (he ▸ d1) s1 (by rw [mset_len]; exact hn)
end LSTEP
