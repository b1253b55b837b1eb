/-! p53: the law's own body: a small interpreter with the script, and what its rows are on the machine -/
abbrev LK : Type := Lcs → List Value → Mem → Prop
/-- what cell answers -/
def cellV (sn : Nat) (sx : Nat → Int32) (k : Int32) : Int32 := if k < nI sn then sx k.toNatClampNeg else cst 7919 * (k + cst 3) * (k + cst 11)
def ceS (S : List Value) (X : Int32 → List Value → Prop) : Prop := match S with
  | .int k :: .ref q :: r => q = 99 ∧ 0 ≤ k ∧ X k r
  | _ => False
theorem ceS_inv {S : List Value} {X : Int32 → List Value → Prop} (h : ceS S X) : ∃ k r, S = .int k :: .ref 99 :: r ∧ 0 ≤ k ∧ X k r := by
  unfold ceS at h; split at h
  · obtain ⟨rfl, h1, h2⟩ := h
    exact ⟨_, _, rfl, h1, h2⟩
  · exact h.elim
def lS (VC : Nat → List Value → Mem → Option Value → Mem → Prop) (RR : List Value → Mem → Prop) (sn : Nat) (sx : Nat → Int32) (P : Nat → LK) (_pc a : Nat) (i : Instr) (L : Lcs) (S : List Value) (M : Mem) (K : LK) : Prop :=
  match i with
  | .iconst n => K L (.int (cst n) :: S) M
  | .bipush n => K L (.int (cst n) :: S) M
  | .sipush n => K L (.int (cst n) :: S) M
  | .iload_n n => ldI L n.val fun x => K L (.int x :: S) M
  | .iload n => ldI L n fun x => K L (.int x :: S) M
  | .lload n => ldJ L n fun x => K L (.long x :: S) M
  | .aload_n n => ldA L n.val fun x => K L (.ref x :: S) M
  | .istore_n n => stI S fun x r => K (stor L n.val (.int x)) r M
  | .istore n => stI S fun x r => K (stor L n (.int x)) r M
  | .lstore n => stJ S fun x r => K (stor L n (.long x)) r M
  | .iinc n z => ldI L n fun x => K (stor L n (.int (x + cst z))) S M
  | .iadd => o2 (· + ·) S fun S' => K L S' M
  | .isub => o2 (· - ·) S fun S' => K L S' M
  | .imul => o2 (· * ·) S fun S' => K L S' M
  | .irem => d2 (fun x y => x - x / y * y) S fun S' => K L S' M
  | .iand => o2 (· &&& ·) S fun S' => K L S' M
  | .ishr => o2 (fun x y => x >>> (y &&& 31)) S fun S' => K L S' M
  | .lcmp => stJ S fun y r => stJ r fun x r' => K L (.int (lg_cmp x y) :: r') M
  | .ifCond c _ => stI S fun x r => (cnd c x → P a L r M) ∧ (¬ cnd c x → K L r M)
  | .if_icmp c _ => stI S fun y r => stI r fun x r' => (cnd2 c x y → P a L r' M) ∧ (¬ cnd2 c x y → K L r' M)
  | .goto _ => P a L S M
  | .invokevirtual _ => stA (S.drop (mN a)) fun b r => gtO M b fun ci _ => bif ci == mC a then csum r ≤ 8 ∧ (S.take (mN a)).length = mN a ∧ ∃ v M', VC a (.ref b :: (S.take (mN a)).reverse) M v M' ∧ K L (v.toList ++ r) M' else False
  | .invokestatic _ => bif a == 1997 then ceS S (fun k r => csum r ≤ 8 ∧ K L (.int (cellV sn sx k) :: r) M)
    else csum (S.drop (mN a)) ≤ 8 ∧ (S.take (mN a)).length = mN a ∧ ∃ v M', VC a (S.take (mN a)).reverse M v M' ∧ K L (v.toList ++ S.drop (mN a)) M'
  | .ireturn => RR S M
  | _ => False
def lW (VC : Nat → List Value → Mem → Option Value → Mem → Prop) (RR : List Value → Mem → Prop) (sn : Nat) (sx : Nat → Int32) (P : Nat → LK) : List En → LK
  | [], _, _, _ => False
  | (pc, i, _, a) :: r, L, S, M => lS VC RR sn sx P pc a i L S M (fun L' S' M' => lW VC RR sn sx P r L' S' M')
def lplain : Instr → Bool
  | .invokevirtual _ => false | .invokestatic _ => false | .ireturn => false | _ => true
/-- what is checked of a row: with the places of its words -/
def lchk (ml : Nat) (own : String) (q : Nat) (i : Instr) (a : Nat) (ps : List Nat) : Bool :=
  match i with
  | .iconst n => decide (Int32.ofInt n = cst n)
  | .bipush n => decide ((Int8.ofInt n).toInt32 = cst n)
  | .sipush n => decide ((Int16.ofInt n).toInt32 = cst n)
  | .ifCond _ off => decide ((q : Int) + off = (a : Int))
  | .if_icmp _ off => decide ((q : Int) + off = (a : Int))
  | .goto off => decide ((q : Int) + off = (a : Int))
  | .istore_n n => decide (n.val < ml)
  | .istore n => decide (n < ml)
  | .lstore n => decide (n + 1 < ml)
  | .iinc n z => decide (n < ml) && decide (Int32.ofInt z = cst z)
  | .invokevirtual index => decide (a < nM) && wd (psn ps 0) (.methodLink own index (mY a)) && wd (psn ps 1) (.instanceMethod (mY a)) && wd (psn ps 2) (.selects (mY a).cls (mY a) (mY a)) && wd (psn ps 3) (.initialized (mY a).cls)
    && decide ((vwCl[mC a]?).map (fun r => r.1) = some (mY a).cls)
  | .invokestatic index => if a = 1997 then wd (psn ps 0) (.methodLink own index yL_cell) && wd (psn ps 1) (.static yL_cell) && wd (psn ps 2) (.initialized yL_cell.cls)
    else decide (a < nM) && wd (psn ps 0) (.methodLink own index (mY a)) && wd (psn ps 1) (.static (mY a)) && wd (psn ps 2) (.initialized (mY a).cls)
  | _ => true
def chL (cb : ByteArray) (ml : Nat) (own : String) : List En → List (List Nat) → Nat → Bool
  | [], _, _ => true
  | (pc, i, len, a) :: r, pss, q => decide (pc = q) && decide (decode cb pc = .ok (i, len)) && (ilen i == 0 || ilen i == len) && lchk ml own pc i a (pss.headD []) && chL cb ml own r pss.tail (pc + len)
/-- cell, by hand -/
def rmC : Room := { frames := 1, cells := 0, slots := 0, locals := 60 }
def PreC (b : Nat) (k : Int32) (sn : Nat) (sx : Nat → Int32) : Array Value → State → Prop := va_Pc [.ref b, .int k] (fun U => va_X b sn sx U U.heap ∧ b < U.heap.size)
def PostC (sn : Nat) (sx : Nat → Int32) (k : Int32) : Array Value → State → Outcome → State → Prop := fun _ st oc t => oc = .returned (some (.int (cellV sn sx k))) ∧ t.heap = st.heap
theorem preC_blind {b : Nat} {k : Int32} {sn : Nat} {sx : Nat → Int32} : FrameBlind (PreC b k sn sx) := by
  intro a U g mk h
  obtain ⟨q0, q1, q2⟩ := h
  exact ⟨q0, va_X.moved (u := U) (U := U.calling g mk a) (Vm.Alike.refl U.vm) q1, q2⟩
set_option maxHeartbeats 4000000 in
theorem cell_met (l : Launch) {b : Nat} {k : Int32} {sn : Nat} {sx : Nat → Int32} (hk : 0 ≤ k) (hsn : sn < 2 ^ 31) (hcode : Cond.code yL_cell cL_cell 2 (some .int) ∈ TT) : Met l yL_cell (Cond.code yL_cell cL_cell 2 (some .int) :: TT) rmC (PreC b k sn sx) (PostC sn sx k) 0 0 (fun _ => False) := by
  refine Met.ofW (cc := cL_cell) (maxL := 2) (ret := some .int) (by decide) rfl ?_
  intro p e s m args below meth c s₁ B hml hv
  obtain ⟨rfl, hX, hbl⟩ := hv
  have hx := B.exec
  have hb := B.bytes
  have hr := B.returns
  have hlocks := B.notSynchronized
  have hl := lv_entry ([.ref b, .int k]) (n := 2) (Nat.le_of_ble_eq_true rfl)
  rw [lg_entry_eq]
  generalize (lg_sl ([.ref b, .int k]) ++ List.replicate (2 - (lg_sl ([.ref b, .int k])).length) Slot.unset).toArray = ls at hl ⊢
  have hl : lv_has ls 2 [(0, .ref b), (1, .int k)] := hl
  have hS : va_S (fun _ => False) s.heap s.heap [] := va_S.rf
  refine lv_iload_n hx hb (by decide +kernel : decode cL_cell 0 = .ok (.iload_n 1, 1)) rfl (lv_at hl 1 rfl) ?_
  refine lv_aload_n hx hb (by decide +kernel : decode cL_cell 1 = .ok (.aload_n 0, 1)) rfl (lv_at hl 0 rfl) ?_
  refine va_slen hx hb hX hbl (fun z => z) hS (by decide +kernel : decode cL_cell 2 = .ok (.arraylength, 1)) ?_
  refine lv_icmp_ge hx hb (by decide +kernel : decode cL_cell 3 = .ok (.if_icmp .ge 9, 3)) (tgt := 12) rfl (fun z => ?_) (fun z => ?_)
  · have e : cellV sn sx k = cst 7919 * (k + cst 3) * (k + cst 11) := if_neg (Int32.not_lt.mpr z)
    refine lv_sipush (v := cst 7919) hx hb (by decide +kernel : decode cL_cell 12 = .ok (.sipush 7919, 3)) (by decide) ?_
    refine lv_iload_n hx hb (by decide +kernel : decode cL_cell 15 = .ok (.iload_n 1, 1)) rfl (lv_at hl 1 rfl) ?_
    refine lv_iconst (v := cst 3) hx hb (by decide +kernel : decode cL_cell 16 = .ok (.iconst 3, 1)) (by decide) ?_
    refine lv_iadd hx hb (by decide +kernel : decode cL_cell 17 = .ok (.iadd, 1)) ?_
    refine lv_imul hx hb (by decide +kernel : decode cL_cell 18 = .ok (.imul, 1)) ?_
    refine lv_iload_n hx hb (by decide +kernel : decode cL_cell 19 = .ok (.iload_n 1, 1)) rfl (lv_at hl 1 rfl) ?_
    refine lv_bipush (v := cst 11) hx hb (by decide +kernel : decode cL_cell 20 = .ok (.bipush 11, 2)) (by decide) ?_
    refine lv_iadd hx hb (by decide +kernel : decode cL_cell 22 = .ok (.iadd, 1)) ?_
    refine lv_imul hx hb (by decide +kernel : decode cL_cell 23 = .ok (.imul, 1)) ?_
    exact W.iret hx hb hr (fun t ht hW => ⟨by rw [e], ht⟩) (fun _ z => by cases z) (by decide +kernel : decode cL_cell 24 = .ok (.ireturn, 1))
  · have z := Int32.not_le.mp z
    have e : cellV sn sx k = sx k.toNatClampNeg := if_pos z
    have hin : vp_in k sn := by
      rcases pk_ix k hsn with h | h | ⟨j, h1, h2⟩
      · exact absurd h (Int32.not_lt.mpr hk)
      · exact absurd z (Int32.not_lt.mpr h)
      · exact vi h2 h1 hsn
    refine lv_aload_n hx hb (by decide +kernel : decode cL_cell 6 = .ok (.aload_n 0, 1)) rfl (lv_at hl 0 rfl) ?_
    refine lv_iload_n hx hb (by decide +kernel : decode cL_cell 7 = .ok (.iload_n 1, 1)) rfl (lv_at hl 1 rfl) ?_
    refine va_sld hx hb hX hbl (fun z => z) hS hin (by decide +kernel : decode cL_cell 8 = .ok (.iaload, 1)) ?_
    refine lv_goto hx hb (by decide +kernel : decode cL_cell 9 = .ok (.goto 15, 3)) (tgt := 24) rfl ?_
    exact W.iret hx hb hr (fun t ht hW => ⟨by rw [e], ht⟩) (fun _ z => by cases z) (by decide +kernel : decode cL_cell 24 = .ok (.ireturn, 1))
section LSTEP
variable {p : Program} {l : Launch} {e : Jvm.Env} {R : Room} {s : State} {m : MethodId} {args : Array Value} {below : List Frame} {meth : Method} {c : Code} {cells slots n0 ml : Nat} {Q : State → Prop} {E : Env4} {A : Nat → Prop} {H0 : Heap} {cb : ByteArray} {own : String}
/-- what a walk leans on -/
def LB (p : Program) (s : State) (m : MethodId) (args : Array Value) (c : Code) (cb : ByteArray) (ml : Nat) (own : String) (E : Env4) : Prop :=
  p.tables.exec = Jvm.exec ∧ c.code = cb ∧ c.maxLocals = ml ∧ (∀ w ∈ TT, w.before args s = true) ∧ s.vm.findClass own = some m.cls ∧ va_K E.1 vwCl (tysE E) s ∧ (∀ w ∈ nwords, va_Nw w s)
def LW (p : Program) (l : Launch) (e : Jvm.Env) (R : Room) (s : State) (m : MethodId) (args : Array Value) (below : List Frame) (meth : Method) (c : Code) (cells slots : Nat) (Q : State → Prop) (ml n0 : Nat) (E : Env4) (A : Nat → Prop) (H0 : Heap) (pc : Nat) (L : Lcs) (S : List Value) (M : Mem) : Prop :=
  ∀ (ls : Array Slot) (H : Heap) (locs : List Loc), lv_has ls ml (lcl E.2.2.2.2 0 L) → va_P E.1 vwCl (wzf E 0 M) H → va_D A (wzf E 0 M) → va_S A H0 H locs → M.length = n0 →
    W p l e R s m args below meth c H locs cells slots Q (F0 m pc ls (S.map (trV E.2.2.2.2)))
/-- the script, outside the world -/
def LX (s : State) (E : Env4) (A : Nat → Prop) (H0 : Heap) (sn : Nat) (sx : Nat → Int32) : Prop := va_X (E.2.2.2.2 99) sn sx s H0 ∧ E.2.2.2.2 99 < H0.size ∧ ¬ A (E.2.2.2.2 99)
variable {VC : Nat → List Value → Mem → Option Value → Mem → Prop} {RR : List Value → Mem → Prop} {sn : Nat} {sx : Nat → Int32}
set_option maxHeartbeats 4000000 in
theorem lp (B : LB p s m args c cb ml own E) {pc len a : Nat} {i : Instr} {ps : List Nat} {P : Nat → LK} {K : LK} {L : Lcs} {S : List Value} {M : Mem}
    (hpl : lplain i = true) (hdec : decode cb pc = .ok (i, len)) (hlen : (ilen i == 0 || ilen i == len) = true) (hchk : lchk ml own pc i a ps = true) (h : lS VC RR sn sx P pc a i L S M K)
    (hP : ∀ (pc : Nat) (L : Lcs) (S : List Value) (M : Mem), P pc L S M → LW p l e R s m args below meth c cells slots Q ml n0 E A H0 pc L S M)
    (hk : ∀ (L : Lcs) (S : List Value) (M : Mem), K L S M → LW p l e R s m args below meth c cells slots Q ml n0 E A H0 (pc + len) L S M) :
    LW p l e R s m args below meth c cells slots Q ml n0 E A H0 pc L S M := by
  intro ls H locs hl hw hD hS hn
  obtain ⟨hx, hb, hml, hts, hown, hK, -⟩ := B
  cases i
  all_goals first
    | exact Bool.noConfusion hpl
    | exact absurd hpl (by decide)
    | exact False.elim h
    | skip
  case iconst n =>
    have hl1 : len = 1 := il_of hlen rfl (by decide)
    subst hl1
    have hc := of_decide_eq_true hchk
    exact lv_iconst hx hb hdec hc (hk _ _ _ h ls H locs hl hw hD hS hn)
  case bipush n =>
    have hl1 : len = 2 := il_of hlen rfl (by decide)
    subst hl1
    have hc := of_decide_eq_true hchk
    exact lv_bipush hx hb hdec hc (hk _ _ _ h ls H locs hl hw hD hS hn)
  case sipush n =>
    have hl1 : len = 3 := il_of hlen rfl (by decide)
    subst hl1
    have hc := of_decide_eq_true hchk
    exact lv_sipush hx hb hdec hc (hk _ _ _ h ls H locs hl hw hD hS hn)
  case iload_n n =>
    have hl1 : len = 1 := il_of hlen rfl (by decide)
    subst hl1
    obtain ⟨x, hg, h⟩ := ldI_inv h
    exact lv_iload_n hx hb hdec rfl (lv_get hl hg) (hk _ _ _ h ls H locs hl hw hD hS hn)
  case iload n =>
    have hl1 : len = 2 := il_of hlen rfl (by decide)
    subst hl1
    obtain ⟨x, hg, h⟩ := ldI_inv h
    exact lv_iload hx hb hdec (lv_get hl hg) (hk _ _ _ h ls H locs hl hw hD hS hn)
  case lload n =>
    have hl1 : len = 2 := il_of hlen rfl (by decide)
    subst hl1
    obtain ⟨x, hg, h⟩ := ldJ_inv h
    exact lv_lload hx hb hdec (lv_get hl hg) (hk _ _ _ h ls H locs hl hw hD hS hn)
  case aload_n n =>
    have hl1 : len = 1 := il_of hlen rfl (by decide)
    subst hl1
    obtain ⟨x, hg, h⟩ := ldA_inv h
    exact lv_aload_n hx hb hdec rfl (lv_get hl hg) (hk _ _ _ h ls H locs hl hw hD hS hn)
  case istore_n n =>
    have hl1 : len = 1 := il_of hlen rfl (by decide)
    subst hl1
    obtain ⟨x, r, rfl, h⟩ := stI_inv h
    have hc := of_decide_eq_true hchk
    exact lv_istore_n hx hb hdec rfl hl hc rfl (fun ls2 hl2 => hk _ _ _ h ls2 H locs (lv_mono hl2 (stor_sub1)) hw hD hS hn)
  case istore n =>
    have hl1 : len = 2 := il_of hlen rfl (by decide)
    subst hl1
    obtain ⟨x, r, rfl, h⟩ := stI_inv h
    have hc := of_decide_eq_true hchk
    exact lv_istore hx hb hdec hl hc rfl (fun ls2 hl2 => hk _ _ _ h ls2 H locs (lv_mono hl2 (stor_sub1)) hw hD hS hn)
  case lstore n =>
    have hl1 : len = 2 := il_of hlen rfl (by decide)
    subst hl1
    obtain ⟨x, r, rfl, h⟩ := stJ_inv h
    have hc := of_decide_eq_true hchk
    exact lv_lstore hx hb hdec hl hc rfl (fun ls2 hl2 => hk _ _ _ h ls2 H locs (lv_mono hl2 (stor_sub2 rfl)) hw hD hS hn)
  case iinc n z =>
    have hl1 : len = 3 := il_of hlen rfl (by decide)
    subst hl1
    obtain ⟨x, hg, h⟩ := ldI_inv h
    have hc : (decide (n < ml) && decide (Int32.ofInt z = cst z)) = true := hchk
    rw [Bool.and_eq_true] at hc
    have hc1 := of_decide_eq_true hc.1
    have hc2 := of_decide_eq_true hc.2
    have hm := mem_lcl E.2.2.2.2 L 0 n _ hg
    rw [Nat.zero_add] at hm
    obtain ⟨q, hq⟩ := List.getElem?_of_mem hm
    exact lv_iinc hx hb hdec hl hq (by rw [hc2]) hc1 rfl (fun ls2 hl2 => hk _ _ _ h ls2 H locs (lv_mono hl2 (stor_sub1 (v := .int _))) hw hD hS hn)
  case iadd =>
    have hl1 : len = 1 := il_of hlen rfl (by decide)
    subst hl1
    obtain ⟨x, y, r, rfl, h⟩ := o2_inv (K := fun S' => K L S' M) h
    exact lv_iadd hx hb hdec (hk _ _ _ h ls H locs hl hw hD hS hn)
  case isub =>
    have hl1 : len = 1 := il_of hlen rfl (by decide)
    subst hl1
    obtain ⟨x, y, r, rfl, h⟩ := o2_inv (K := fun S' => K L S' M) h
    exact lv_isub hx hb hdec (hk _ _ _ h ls H locs hl hw hD hS hn)
  case imul =>
    have hl1 : len = 1 := il_of hlen rfl (by decide)
    subst hl1
    obtain ⟨x, y, r, rfl, h⟩ := o2_inv (K := fun S' => K L S' M) h
    exact lv_imul hx hb hdec (hk _ _ _ h ls H locs hl hw hD hS hn)
  case irem =>
    have hl1 : len = 1 := il_of hlen rfl (by decide)
    subst hl1
    obtain ⟨x, y, r, rfl, h0, h⟩ := d2_inv (K := fun S' => K L S' M) h
    exact lv_irem hx hb hdec h0 (hk _ _ _ h ls H locs hl hw hD hS hn)
  case iand =>
    have hl1 : len = 1 := il_of hlen rfl (by decide)
    subst hl1
    obtain ⟨x, y, r, rfl, h⟩ := o2_inv (K := fun S' => K L S' M) h
    exact lv_iand hx hb hdec (hk _ _ _ h ls H locs hl hw hD hS hn)
  case ishr =>
    have hl1 : len = 1 := il_of hlen rfl (by decide)
    subst hl1
    obtain ⟨x, y, r, rfl, h⟩ := o2_inv (K := fun S' => K L S' M) h
    exact lv_ishr hx hb hdec (hk _ _ _ h ls H locs hl hw hD hS hn)
  case lcmp =>
    have hl1 : len = 1 := il_of hlen rfl (by decide)
    subst hl1
    obtain ⟨y, r, rfl, h⟩ := stJ_inv h
    obtain ⟨x, r, rfl, h⟩ := stJ_inv h
    exact W.lcmp hx hb hdec (hk _ _ _ h ls H locs hl hw hD hS hn)
  case ifCond cc off =>
    have hl1 : len = 3 := il_of hlen rfl (by decide)
    subst hl1
    obtain ⟨x, r, rfl, h⟩ := stI_inv h
    have ht := of_decide_eq_true hchk
    cases cc with
    | eq => exact lv_if_eq hx hb hdec ht (fun z => hP _ _ _ _ (h.1 z) ls H locs hl hw hD hS hn) (fun z => hk _ _ _ (h.2 z) ls H locs hl hw hD hS hn)
    | ne => exact lv_if_ne hx hb hdec ht (fun z => hP _ _ _ _ (h.1 z) ls H locs hl hw hD hS hn) (fun z => hk _ _ _ (h.2 (fun q => q z)) ls H locs hl hw hD hS hn)
    | lt => exact lv_if_lt hx hb hdec ht (fun z => hP _ _ _ _ (h.1 z) ls H locs hl hw hD hS hn) (fun z => hk _ _ _ (h.2 z) ls H locs hl hw hD hS hn)
    | ge => exact lv_if_ge hx hb hdec ht (fun z => hP _ _ _ _ (h.1 z) ls H locs hl hw hD hS hn) (fun z => hk _ _ _ (h.2 z) ls H locs hl hw hD hS hn)
    | gt => exact lv_if_gt hx hb hdec ht (fun z => hP _ _ _ _ (h.1 z) ls H locs hl hw hD hS hn) (fun z => hk _ _ _ (h.2 z) ls H locs hl hw hD hS hn)
    | le => exact lv_if_le hx hb hdec ht (fun z => hP _ _ _ _ (h.1 z) ls H locs hl hw hD hS hn) (fun z => hk _ _ _ (h.2 z) ls H locs hl hw hD hS hn)
  case if_icmp cc off =>
    have hl1 : len = 3 := il_of hlen rfl (by decide)
    subst hl1
    obtain ⟨y, r, rfl, h⟩ := stI_inv h
    obtain ⟨x, r, rfl, h⟩ := stI_inv h
    have ht := of_decide_eq_true hchk
    cases cc with
    | eq => exact lv_icmp_eq hx hb hdec ht (fun z => hP _ _ _ _ (h.1 z) ls H locs hl hw hD hS hn) (fun z => hk _ _ _ (h.2 z) ls H locs hl hw hD hS hn)
    | ne => exact lv_icmp_ne hx hb hdec ht (fun z => hP _ _ _ _ (h.1 z) ls H locs hl hw hD hS hn) (fun z => hk _ _ _ (h.2 (fun q => q z)) ls H locs hl hw hD hS hn)
    | lt => exact lv_icmp_lt hx hb hdec ht (fun z => hP _ _ _ _ (h.1 z) ls H locs hl hw hD hS hn) (fun z => hk _ _ _ (h.2 z) ls H locs hl hw hD hS hn)
    | ge => exact lv_icmp_ge hx hb hdec ht (fun z => hP _ _ _ _ (h.1 z) ls H locs hl hw hD hS hn) (fun z => hk _ _ _ (h.2 z) ls H locs hl hw hD hS hn)
    | gt => exact lv_icmp_gt hx hb hdec ht (fun z => hP _ _ _ _ (h.1 z) ls H locs hl hw hD hS hn) (fun z => hk _ _ _ (h.2 z) ls H locs hl hw hD hS hn)
    | le => exact lv_icmp_le hx hb hdec ht (fun z => hP _ _ _ _ (h.1 z) ls H locs hl hw hD hS hn) (fun z => hk _ _ _ (h.2 z) ls H locs hl hw hD hS hn)
  case goto off =>
    have hl1 : len = 3 := il_of hlen rfl (by decide)
    subst hl1
    have ht := of_decide_eq_true hchk
    exact lv_goto hx hb hdec ht (hP _ _ _ _ h ls H locs hl hw hD hS hn)
/-! calls, chains -/
def lclass (i : Instr) : Nat := match i with
  | .invokevirtual _ => 1
  | .invokestatic _ => 2
  | .ireturn => 3
  | _ => 0
theorem lpreM (B : LB p s m args c cb ml own E) {H : Heap} {av : List Value} {M : Mem} (hw : va_P E.1 vwCl (wzf E 0 M) H) : ∀ U : State, U.heap = H → s.WarmedH U.vm → PreM E av M H.size (av.map (trV E.2.2.2.2)).toArray U := by
  intro U hU hW
  obtain ⟨-, -, -, -, -, hK, hN⟩ := B
  exact ⟨rfl, by rw [hU], by rw [hU]; exact hw, va_K.moved hW.alike hK, nw_warm hW hN⟩
theorem lvGood {a index : Nat} {ps : List Nat} {pc : Nat} (hchk : lchk ml own pc (.invokevirtual index) a ps = true) : a < nM ∧ GoodIn TT (wsV own index (mY a).cls (mY a) (wsk a)) ∧ ∃ q, vwCl[mC a]? = some q ∧ q.1 = (mY a).cls := by
  have hchk : (decide (a < nM) && wd (psn ps 0) (.methodLink own index (mY a)) && wd (psn ps 1) (.instanceMethod (mY a)) && wd (psn ps 2) (.selects (mY a).cls (mY a) (mY a)) && wd (psn ps 3) (.initialized (mY a).cls)
    && decide ((vwCl[mC a]?).map (fun r => r.1) = some (mY a).cls)) = true := hchk
  simp only [Bool.and_eq_true, decide_eq_true_eq] at hchk
  obtain ⟨⟨⟨⟨⟨c1, c2⟩, c3⟩, c4⟩, c5⟩, c6⟩ := hchk
  obtain ⟨q, hq, hq2⟩ := Option.map_eq_some_iff.mp c6
  refine ⟨c1, ?_, q, hq, hq2⟩
  intro w hw
  rcases List.mem_append.mp hw with hw | hw
  · simp only [List.mem_cons, List.not_mem_nil, or_false] at hw
    rcases hw with rfl | rfl | rfl | rfl
    · exact TT_good (wd_mem c2)
    · exact TT_good (wd_mem c3)
    · exact TT_good (wd_mem c4)
    · exact TT_good (wd_mem c5)
  · exact wsk_good c1 w hw
theorem lvStack {a b : Nat} {S r : List Value} (hb1 : S.drop (mN a) = .ref b :: r) : S.map (trV E.2.2.2.2) = ((S.take (mN a)).reverse.map (trV E.2.2.2.2)).reverse ++ Value.ref (E.2.2.2.2 b) :: r.map (trV E.2.2.2.2) := by
  rw [← List.map_reverse, List.reverse_reverse]
  have e1 : S.take (mN a) ++ S.drop (mN a) = S := List.take_append_drop _ _
  conv => lhs; rw [← e1, hb1]
  rw [List.map_append]; rfl
set_option maxHeartbeats 4000000 in
theorem lvirt (B : LB p s m args c cb ml own E) (hDL : CDL l) (hinj : injE E n0) (hA : ∀ q, H0.size ≤ q → A q) {dd : Nat} (hR : dd + 1 ≤ R.frames ∧ 60 * (dd + 1) ≤ R.locals) (hcs : cells ≤ R.cells ∧ slots ≤ R.slots) {pc a index : Nat} {ps : List Nat} {L : Lcs} {S r : List Value} {M M1 : Mem} {b : Nat} {fs : List Value} {v : Option Value}
    (hdec : decode cb pc = .ok (.invokevirtual index, 3)) (hchk : lchk ml own pc (.invokevirtual index) a ps = true) (hb1 : S.drop (mN a) = .ref b :: r) (hm : mget M b = some (eO (mC a) fs)) (h2 : csum r ≤ 8) (h3 : (S.take (mN a)).length = mN a) (hcl : Cl dd a (.ref b :: (S.take (mN a)).reverse) M (.inl v) M1)
    (hk : LW p l e R s m args below meth c cells slots Q ml n0 E A H0 (pc + 3) L (v.toList ++ r) M1) : LW p l e R s m args below meth c cells slots Q ml n0 E A H0 pc L S M := by
  intro ls H locs hl hw hD hS hn
  have B0 := B
  obtain ⟨hx, hb, hml, hts, hown, hK, hNw⟩ := B0
  obtain ⟨c1, hT, q, hq, hq2⟩ := lvGood hchk
  obtain ⟨f1, f2, f3, f4, f5, -⟩ := ck_facts c1
  have hM := snd l hDL E dd a _ M v M1 hcl (by rw [hn]; exact hinj) c1 H.size
  have hmp : (Value.ref b :: (S.take (mN a)).reverse).map (trV E.2.2.2.2) = Value.ref (E.2.2.2.2 b) :: ((S.take (mN a)).reverse.map (trV E.2.2.2.2)) := rfl
  have hpre := lpreM B (av := Value.ref b :: (S.take (mN a)).reverse) hw
  rw [hmp] at hpre
  refine wcall (M1 := M1) (v := v) (va_runV (As := (S.take (mN a)).reverse.map (trV E.2.2.2.2)) (rest := r.map (trV E.2.2.2.2)) (n := mN a) (Ts := TT) ⟨hx, hb, hml, hown, hts⟩ hM
    (cwV (mN a) hts hT rfl rfl rfl ⟨rfl, f2, f3, f4⟩ ⟨hR.1, by show 8 + (mL a + 11) + 60 * dd ≤ R.locals; have := hR.2; omega⟩) ⟨preM_blind, ?_, hpre⟩ rfl (by rw [List.length_map, List.length_reverse]; exact h3) hl.1 (lvStack hb1) (lv_room (by rw [csum_map]; exact h2)) hdec hcs) post_of hS (fun q _ z => va_A_of hD hA hS q z) (va_A_of hD hA hS) (fun H1 locs1 p1 s1 => ?_)
  · have hrc := va_recv hK hw hq (wz_get (E := E) hm) (q := q)
    rw [hq2] at hrc
    exact hrc
  · rw [toL_map]
    have had := aft_D hcl hn hinj hD
    exact hk ls H1 locs1 hl p1 had.1 s1 had.2
theorem lsGood {index : Nat} {q0 q1 q2 : Nat} {y : MethodName} {ws : List Cond} (c2 : wd q0 (.methodLink own index y) = true) (c3 : wd q1 (.static y) = true) (c4 : wd q2 (.initialized y.cls) = true) (hws : ∀ w ∈ ws, w ∈ TT ∧ ((w.onTables && w.keeps) = true ∨ ∃ ty, w = .arrayClass ty)) : GoodIn TT (va_wsS own index y ws) := by
  intro w hw
  rcases List.mem_append.mp hw with hw | hw
  · simp only [List.mem_cons, List.not_mem_nil, or_false] at hw
    rcases hw with rfl | rfl | rfl
    · exact TT_good (wd_mem c2)
    · exact TT_good (wd_mem c3)
    · exact TT_good (wd_mem c4)
  · exact hws w hw
set_option maxHeartbeats 4000000 in
theorem lstat (B : LB p s m args c cb ml own E) (hDL : CDL l) (hinj : injE E n0) (hA : ∀ q, H0.size ≤ q → A q) {dd : Nat} (hR : dd + 1 ≤ R.frames ∧ 60 * (dd + 1) ≤ R.locals) (hcs : cells ≤ R.cells ∧ slots ≤ R.slots) {pc a index : Nat} {ps : List Nat} {L : Lcs} {S : List Value} {M M1 : Mem} {v : Option Value}
    (hdec : decode cb pc = .ok (.invokestatic index, 3)) (hchk : lchk ml own pc (.invokestatic index) a ps = true) (ha : ¬ a = 1997) (h2 : csum (S.drop (mN a)) ≤ 8) (h3 : (S.take (mN a)).length = mN a) (hcl : Cl dd a (S.take (mN a)).reverse M (.inl v) M1)
    (hk : LW p l e R s m args below meth c cells slots Q ml n0 E A H0 (pc + 3) L (v.toList ++ S.drop (mN a)) M1) : LW p l e R s m args below meth c cells slots Q ml n0 E A H0 pc L S M := by
  intro ls H locs hl hw hD hS hn
  have B0 := B
  obtain ⟨hx, hb, hml, hts, hown, hK, hNw⟩ := B0
  have hchk : (if a = 1997 then wd (psn ps 0) (.methodLink own index yL_cell) && wd (psn ps 1) (.static yL_cell) && wd (psn ps 2) (.initialized yL_cell.cls)
    else decide (a < nM) && wd (psn ps 0) (.methodLink own index (mY a)) && wd (psn ps 1) (.static (mY a)) && wd (psn ps 2) (.initialized (mY a).cls)) = true := hchk
  rw [if_neg ha] at hchk
  simp only [Bool.and_eq_true, decide_eq_true_eq] at hchk
  obtain ⟨⟨⟨c1, c2⟩, c3⟩, c4⟩ := hchk
  obtain ⟨f1, f2, f3, f4, f5, -⟩ := ck_facts c1
  have hM := snd l hDL E dd a _ M v M1 hcl (by rw [hn]; exact hinj) c1 H.size
  have hpre := lpreM B (av := (S.take (mN a)).reverse) hw
  have hst : S.map (trV E.2.2.2.2) = ((S.take (mN a)).reverse.map (trV E.2.2.2.2)).reverse ++ (S.drop (mN a)).map (trV E.2.2.2.2) := by
    rw [← List.map_reverse, List.reverse_reverse, ← List.map_append, List.take_append_drop]
  refine wcall (M1 := M1) (v := v) (va_runS (As := (S.take (mN a)).reverse.map (trV E.2.2.2.2)) (rest := (S.drop (mN a)).map (trV E.2.2.2.2)) (n := mN a) (Ts := TT) ⟨hx, hb, hml, hown, hts⟩ hM
    (va_cwS (mN a) hts (lsGood c2 c3 c4 (wsk_good c1)) rfl rfl rfl ⟨f2, f3, f4⟩ ⟨hR.1, by show 8 + (mL a + 11) + 60 * dd ≤ R.locals; have := hR.2; omega⟩) ⟨preM_blind, hpre⟩ rfl (by rw [List.length_map, List.length_reverse]; exact h3) hl.1 hst (lv_room (by rw [csum_map]; exact h2)) hdec hcs) post_of hS (fun q _ z => va_A_of hD hA hS q z) (va_A_of hD hA hS) (fun H1 locs1 p1 s1 => ?_)
  rw [toL_map]
  have had := aft_D hcl hn hinj hD
  exact hk ls H1 locs1 hl p1 had.1 s1 had.2
set_option maxHeartbeats 4000000 in
theorem lcell (B : LB p s m args c cb ml own E) (hX : LX s E A H0 sn sx) (hsn : sn < 2 ^ 31) (hcode : Cond.code yL_cell cL_cell 2 (some .int) ∈ TT) (hR : 2 ≤ R.frames ∧ 100 ≤ R.locals) (hcs : cells ≤ R.cells ∧ slots ≤ R.slots) {pc index : Nat} {ps : List Nat} {L : Lcs} {r : List Value} {M : Mem} {k : Int32}
    (hdec : decode cb pc = .ok (.invokestatic index, 3)) (hchk : lchk ml own pc (.invokestatic index) 1997 ps = true) (h0 : 0 ≤ k) (h2 : csum r ≤ 8)
    (hk : LW p l e R s m args below meth c cells slots Q ml n0 E A H0 (pc + 3) L (.int (cellV sn sx k) :: r) M) : LW p l e R s m args below meth c cells slots Q ml n0 E A H0 pc L (.int k :: .ref 99 :: r) M := by
  intro ls H locs hl hw hD hS hn
  have B0 := B
  obtain ⟨hx, hb, hml, hts, hown, hK, hNw⟩ := B0
  have hchk : (if (1997 : Nat) = 1997 then wd (psn ps 0) (.methodLink own index yL_cell) && wd (psn ps 1) (.static yL_cell) && wd (psn ps 2) (.initialized yL_cell.cls)
    else decide ((1997 : Nat) < nM) && wd (psn ps 0) (.methodLink own index (mY 1997)) && wd (psn ps 1) (.static (mY 1997)) && wd (psn ps 2) (.initialized (mY 1997).cls)) = true := hchk
  rw [if_pos rfl] at hchk
  simp only [Bool.and_eq_true] at hchk
  obtain ⟨⟨c2, c3⟩, c4⟩ := hchk
  obtain ⟨x1, x2, x3⟩ := hX
  have hX1 : va_X (E.2.2.2.2 99) sn sx s H := x1.kept (hS.2.1 _ x2 x3)
  have hbl : E.2.2.2.2 99 < H.size := Nat.lt_of_lt_of_le x2 hS.1
  refine wcall (M1 := M) (v := some (.int (cellV sn sx k))) (A1 := fun _ => False) (va_runS (As := [.ref (E.2.2.2.2 99), .int k]) (rest := r.map (trV E.2.2.2.2)) (n := 2) (Ts := TT) ⟨hx, hb, hml, hown, hts⟩ (cell_met l (b := E.2.2.2.2 99) h0 hsn hcode)
    (va_cwS 2 hts (lsGood c2 c3 c4 (fun w hw => by
      rcases List.mem_cons.mp hw with hw | hw
      · rw [hw]; exact TT_good hcode
      · exact TT_good hw)) rfl rfl rfl ⟨by decide, by decide, by decide +kernel⟩ ⟨hR.1, by show 8 + (2 + 11) + 60 ≤ R.locals; have := hR.2; omega⟩) ⟨preC_blind, fun U hU hW => ⟨rfl, by rw [hU]; exact va_X.moved hW.alike hX1, by rw [hU]; exact hbl⟩⟩ rfl rfl hl.1 rfl (lv_room (by rw [csum_map]; exact h2)) hdec hcs)
    (fun st t o hst hq => ⟨⟨hq.1, by rw [hq.2, hst]; exact hw⟩, Nat.le_of_eq (by rw [hq.2]), fun q _ _ => by rw [hq.2]⟩) hS (fun _ _ z => z.elim) (fun _ z => z.elim) (fun H1 locs1 p1 s1 => ?_)
  exact hk ls H1 locs1 hl p1 hD s1 hn
end LSTEP
/-! the law's walk -/
theorem fnd_chL {cb : ByteArray} {ml : Nat} {own : String} : ∀ (p : List En) (pss : List (List Nat)) (q pc : Nat), chL cb ml own p pss q = true → fnd p pc = [] ∨ ∃ pss', chL cb ml own (fnd p pc) pss' pc = true := by
  intro p
  induction p with
  | nil => intro pss q pc _; exact Or.inl rfl
  | cons x r ih =>
    intro pss q pc h
    obtain ⟨pc', i, len, a⟩ := x
    have hh := h
    unfold chL at h
    simp only [Bool.and_eq_true, decide_eq_true_eq] at h
    cases hm : (pc' == pc && nnop i) with
    | true =>
      right
      refine ⟨pss, ?_⟩
      have e1 : fnd ((pc', i, len, a) :: r) pc = (pc', i, len, a) :: r := by
        show (bif pc' == pc && nnop i then _ else _) = _
        rw [hm]; rfl
      rw [Bool.and_eq_true] at hm
      have e2 := eq_of_beq hm.1
      have e4 : pc = q := by rw [← e2]; exact h.1.1.1.1
      rw [e1, e4]; exact hh
    | false =>
      have e1 : fnd ((pc', i, len, a) :: r) pc = fnd r pc := by
        show (bif pc' == pc && nnop i then _ else _) = _
        rw [hm]; rfl
      rw [e1]
      exact ih _ _ pc h.2
def fndC : List (Nat × List En) → Nat → List En
  | [], _ => []
  | (hi, r) :: t, pc => bif Nat.ble hi pc then fndC t pc else fnd r pc
def chC (q : Nat × List En) : Prop := ∃ pss q0, chL code 12 "AlibiDealsLaw" q.2 pss q0 = true
theorem fndC_of : ∀ (rs : List (Nat × List En)) (pc : Nat), fndC rs pc = [] ∨ ∃ q ∈ rs, fndC rs pc = fnd q.2 pc := by
  intro rs
  induction rs with
  | nil => intro pc; exact Or.inl rfl
  | cons x r ih =>
    intro pc
    obtain ⟨hi, r1⟩ := x
    have e : fndC ((hi, r1) :: r) pc = bif Nat.ble hi pc then fndC r pc else fnd r1 pc := rfl
    cases hb : Nat.ble hi pc with
    | true =>
      rw [e, hb]
      rcases ih pc with h | ⟨q, hq, h⟩
      · exact Or.inl h
      · exact Or.inr ⟨q, List.mem_cons_of_mem _ hq, h⟩
    | false =>
      rw [e, hb]
      exact Or.inr ⟨(hi, r1), List.mem_cons_self, rfl⟩
abbrev VCl : Nat → List Value → Mem → Option Value → Mem → Prop := fun a av N v N1 => Cl 20 a av N (.inl v) N1
def LRun (rs : List (Nat × List En)) (sn : Nat) (sx : Nat → Int32) (pc : Nat) (L : Lcs) (S : List Value) (M : Mem) : Prop :=
  ∀ P : Nat → LK, (∀ pc L S N, lW VCl (fun S _ => S = [.int 1]) sn sx P (fndC rs pc) L S N → P pc L S N) → P pc L S M
section LSND
variable {p : Program} {l : Launch} {e : Jvm.Env} {R : Room} {s : State} {m : MethodId} {args : Array Value} {below : List Frame} {meth : Method} {c : Code} {cells slots n0 : Nat} {Q : State → Prop} {E : Env4} {A : Nat → Prop} {H0 : Heap} {sn : Nat} {sx : Nat → Int32}
set_option maxHeartbeats 4000000 in
theorem lchain (B : LB p s m args c code 12 "AlibiDealsLaw" E) (hDL : CDL l) (hinj : injE E n0) (hA : ∀ q, H0.size ≤ q → A q) (hR : 40 ≤ R.frames ∧ 2000 ≤ R.locals) (hcs : cells ≤ R.cells ∧ slots ≤ R.slots) (hX : LX s E A H0 sn sx) (hsn : sn < 2 ^ 31) (hcode : Cond.code yL_cell cL_cell 2 (some .int) ∈ TT) {P : Nat → LK}
    (hP : ∀ (pc : Nat) (L : Lcs) (S : List Value) (M : Mem), P pc L S M → LW p l e R s m args below meth c cells slots Q 12 n0 E A H0 pc L S M)
    (hret : ∀ (pc : Nat) (L : Lcs) (M : Mem), decode code pc = .ok (.ireturn, 1) → LW p l e R s m args below meth c cells slots Q 12 n0 E A H0 pc L [.int 1] M) :
    ∀ (r : List En) (pss : List (List Nat)) (q : Nat) (L : Lcs) (S : List Value) (M : Mem), chL code 12 "AlibiDealsLaw" r pss q = true → lW VCl (fun S _ => S = [.int 1]) sn sx P r L S M → LW p l e R s m args below meth c cells slots Q 12 n0 E A H0 q L S M := by
  intro r
  induction r with
  | nil => intro pss q L S M _ h; exact False.elim h
  | cons x r ihr =>
    intro pss q L S M hc h
    obtain ⟨pc, i, len, a⟩ := x
    replace h : lS VCl (fun S _ => S = [.int 1]) sn sx P pc a i L S M (fun L' S' M' => lW VCl (fun S _ => S = [.int 1]) sn sx P r L' S' M') := h
    unfold chL at hc
    simp only [Bool.and_eq_true, decide_eq_true_eq] at hc
    obtain ⟨⟨⟨⟨e1, e2⟩, e3⟩, e4⟩, e5⟩ := hc
    subst e1
    have hk : ∀ (L : Lcs) (S : List Value) (M : Mem), lW VCl (fun S _ => S = [.int 1]) sn sx P r L S M → LW p l e R s m args below meth c cells slots Q 12 n0 E A H0 (pc + len) L S M :=
      fun L S M z => ihr _ _ L S M e5 z
    by_cases hi : lclass i = 0
    · refine lp B ?_ e2 e3 e4 h hP hk
      cases i <;> first | rfl | (exact absurd (show (1 : Nat) = 0 from hi) (by decide)) | (exact absurd (show (2 : Nat) = 0 from hi) (by decide)) | (exact absurd (show (3 : Nat) = 0 from hi) (by decide))
    · cases i <;> first | (exact absurd rfl hi) | skip
      case invokevirtual x =>
        have hl1 : len = 3 := il_of e3 rfl (by decide)
        subst hl1
        obtain ⟨b, r, hb1, h⟩ := stA_inv h
        obtain ⟨ci, fs, hm, h⟩ := gtO_inv h
        obtain ⟨h1, h2, h3, v, M1, hcl, hk2⟩ := bif_inv (b := ci == mC a) h
        have h1 := eq_of_beq h1
        subst h1
        exact lvirt B hDL hinj hA ⟨by omega, by omega⟩ hcs e2 e4 hb1 hm h2 h3 hcl (hk _ _ _ hk2)
      case invokestatic x =>
        have hl1 : len = 3 := il_of e3 rfl (by decide)
        subst hl1
        have h : (bif a == 1997 then ceS S (fun k r2 => csum r2 ≤ 8 ∧ lW VCl (fun S _ => S = [.int 1]) sn sx P r L (.int (cellV sn sx k) :: r2) M)
          else csum (S.drop (mN a)) ≤ 8 ∧ (S.take (mN a)).length = mN a ∧ ∃ v M', VCl a (S.take (mN a)).reverse M v M' ∧ lW VCl (fun S _ => S = [.int 1]) sn sx P r L (v.toList ++ S.drop (mN a)) M') := h
        cases ha : (a == 1997) with
        | true =>
          rw [ha] at h
          have ha := eq_of_beq ha
          subst ha
          obtain ⟨k, r2, rfl, h0, h2, h3⟩ := ceS_inv h
          exact lcell B hX hsn hcode ⟨by omega, by omega⟩ hcs e2 e4 h0 h2 (hk _ _ _ h3)
        | false =>
          rw [ha] at h
          obtain ⟨h2, h3, v, M1, hcl, hk2⟩ := h
          exact lstat B hDL hinj hA ⟨by omega, by omega⟩ hcs e2 e4 (fun q => by rw [q] at ha; cases ha) h2 h3 hcl (hk _ _ _ hk2)
      case ireturn =>
        have hl1 : len = 1 := il_of e3 rfl (by decide)
        subst hl1
        have h : S = [.int 1] := h
        subst h
        exact hret pc L M e2
theorem lsnd (B : LB p s m args c code 12 "AlibiDealsLaw" E) (hDL : CDL l) (hinj : injE E n0) (hA : ∀ q, H0.size ≤ q → A q) (hR : 40 ≤ R.frames ∧ 2000 ≤ R.locals) (hcs : cells ≤ R.cells ∧ slots ≤ R.slots) (hX : LX s E A H0 sn sx) (hsn : sn < 2 ^ 31) (hcode : Cond.code yL_cell cL_cell 2 (some .int) ∈ TT)
    {rs : List (Nat × List En)} (hrs : ∀ q ∈ rs, chC q)
    (hret : ∀ (pc : Nat) (L : Lcs) (M : Mem), decode code pc = .ok (.ireturn, 1) → LW p l e R s m args below meth c cells slots Q 12 n0 E A H0 pc L [.int 1] M)
    {pc : Nat} {L : Lcs} {S : List Value} {M : Mem} (h : LRun rs sn sx pc L S M) : LW p l e R s m args below meth c cells slots Q 12 n0 E A H0 pc L S M := by
  refine h (fun pc L S N => LW p l e R s m args below meth c cells slots Q 12 n0 E A H0 pc L S N) ?_
  intro pc L S N hwI
  rcases fndC_of rs pc with hn | ⟨q, hq, hn⟩
  · rw [hn] at hwI; exact False.elim hwI
  · rw [hn] at hwI
    obtain ⟨pss, q0, hch⟩ := hrs q hq
    rcases fnd_chL q.2 pss q0 pc hch with hn2 | ⟨pss', hc⟩
    · rw [hn2] at hwI; exact False.elim hwI
    · exact lchain B hDL hinj hA hR hcs hX hsn hcode (fun _ _ _ _ z => z) hret _ pss' pc L S N hc hwI
end LSND
