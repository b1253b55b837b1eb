/-! the law's methods that call the class and catch: one contract for all of their form -/
theorem metWH {l : Launch} {y : MethodName} {ws ws' : List Cond} {rm : Room} {Pc : Array Value → State → Prop} {Qc : Array Value → State → Outcome → State → Prop} {mc ms : Nat} {free : Addr → Prop} {cc : ByteArray} {maxL : Nat} {ret : Option FieldType} {hh : List (Nat × Nat × Nat × Nat)}
    (hy : plainName y.cls = true) (hw : ws = Cond.codeWith y cc maxL ret hh :: ws')
    (body : ∀ p e s m args below meth c s₁, BodyLoose p l y (headSpec ws rm) cc maxL ret e s m args below meth c s₁ → c.maxLocals = maxL → Pc args s →
      W p l e (headSpec ws rm).room s m args below meth c s.heap [] 0 0 (MQ below Qc args s mc ms free) (entryFrame m args maxL)) : Met l y ws rm Pc Qc mc ms free := by
  refine MetFree.of_bodyS (code := cc) (maxLocals := maxL) (ret := ret) hy ?_ ?_
  · intro args s m h hn
    obtain ⟨m9, meth, c, hn9, h1, h2, h3, h4, -, h5, h6, -⟩ := Cond.codeWith_spec (atoms_spec (ws := ws) h _ (by rw [hw]; exact List.mem_cons_self))
    cases hn.symm.trans hn9
    exact ⟨meth, c, h1, h2, h3, h4, h5, h6⟩
  · intro p e s m args below meth c s₁ B hml hP _
    have hh0 : s₁.heap = s.heap := by rw [B.state]; rfl
    obtain ⟨t, a1, o, b1, b2, b3⟩ := body p e s m args below meth c s₁ B hml hP s₁ hh0 (Stand.of_body B)
    exact ⟨t, o, a1, b1, b2, b3⟩
def rmw (dd : Nat) : Room := { frames := dd + 12, cells := 1, slots := 6, locals := 60 * dd + 300 }
def PreW (E : Env4) (av : List Value) (M : Mem) (sz : Nat) : Array Value → State → Prop := fun a U => PreX E av M sz a U ∧ va_Nc (xN 1) (xN 0) U ∧ va_Nc (xN 1) (xN 2) U
def WRun (dd : Nat) (cd : Nat → Option Int32) (rows : List En) (ml : Nat) (av : List Value) (M : Mem) (x : Int32) (M' : Mem) : Prop :=
  ∀ P : Nat → LK, (∀ pc t L S N, lW (fun a av N v N1 => Cl dd a av N (.inl v) N1) (fun a av N => ∃ e, Cl dd a av N (.inr e) M' ∧ cd e = some x) (fun _ _ _ _ _ => False) (fun S N => S = [.int x] ∧ N = M') (fun _ => 0) 0 (fun _ => 0) P (fnd rows pc) t L S N → P pc t L S N) → P 0 0 (entL ml av) [] M
def WMet (l : Launch) (dd : Nat) (y : MethodName) (ws : List Cond) (E : Env4) (av : List Value) (M : Mem) (x : Int32) (M' : Mem) : Prop :=
  ∀ sz, Met l y ws (rmw dd) (PreW E av M sz) (PostM E (some (.int x)) M' (va_A (wzf E 0 M) sz)) 1 6 (va_A (wzf E 0 M) sz)
/-- the handler of the throw e at pc: where it stands, what it answers -/
def HND (cb : ByteArray) (ml : Nat) (hh : List (Nat × Nat × Nat × Nat)) (pc e : Nat) (x : Int32) : Prop :=
  e < 3 ∧ ∃ (pre : List ExceptionTableEntry) (z : ExceptionTableEntry) (suf : List ExceptionTableEntry) (n : Nat) (k : Int), tableOf hh = pre ++ z :: suf ∧ covers z pc = true ∧ z.catchType ≠ 0 ∧ Cond.classLink "AlibiDealsLaw" z.catchType (xN e) ∈ TT ∧
    (∀ w ∈ pre, w.catchType ≠ 0 ∧ ∃ e', Cond.classLink "AlibiDealsLaw" w.catchType (xN e') ∈ TT ∧ e = 1 ∧ (e' = 0 ∨ e' = 2)) ∧ n < ml ∧ Int32.ofInt k = x ∧
    ∃ q, ((decode cb z.handlerPc = .ok (.astore n, 2) ∧ q = 2) ∨ ∃ f : Fin 4, f.val = n ∧ decode cb z.handlerPc = .ok (.astore_n f, 1) ∧ q = 1) ∧ decode cb (z.handlerPc + q) = .ok (.iconst k, 1) ∧ decode cb (z.handlerPc + q + 1) = .ok (.ireturn, 1)
def WOK (y : MethodName) (cb : ByteArray) (ml : Nat) (hh : List (Nat × Nat × Nat × Nat)) (rows : List En) (cd : Nat → Option Int32) : Prop :=
  plainName y.cls = true ∧ y.cls = "AlibiDealsLaw" ∧ Cond.codeWith y cb ml (some .int) hh ∈ TT ∧ (∃ pss, chL cb ml "AlibiDealsLaw" rows pss 0 = true) ∧ (rows.any (fun x => lscr x.2.1)) = false ∧
  ∀ pc index a, (pc, Instr.invokevirtual index, 3, a) ∈ rows → ∀ e x, cd e = some x → HND cb ml hh pc e x
theorem fnd_chL {cb : ByteArray} {ml : Nat} {own : String} : ∀ (p : List En) (pss : List (List Nat)) (q pc : Nat), chL cb ml own p pss q = true → fnd p pc = [] ∨ ∃ pss', chL cb ml own (fnd p pc) pss' pc = true := by
  intro p
  induction p with
  | nil => intro pss q pc _; exact Or.inl rfl
  | cons x r ih =>
    intro pss q pc h
    obtain ⟨pc', i, len, a⟩ := x
    have hh := h
    unfold chL at h
    simp only [Bool.and_eq_true, decide_eq_true_eq] at h
    cases hm : (pc' == pc && nnop i) with
    | true =>
      right
      refine ⟨pss, ?_⟩
      have e1 : fnd ((pc', i, len, a) :: r) pc = (pc', i, len, a) :: r := by
        show (bif pc' == pc && nnop i then _ else _) = _
        rw [hm]; rfl
      rw [Bool.and_eq_true] at hm
      have e2 := eq_of_beq hm.1
      have e4 : pc = q := by rw [← e2]; exact h.1.1.1.1
      rw [e1, e4]; exact hh
    | false =>
      have e1 : fnd ((pc', i, len, a) :: r) pc = fnd r pc := by
        show (bif pc' == pc && nnop i then _ else _) = _
        rw [hm]; rfl
      rw [e1]
      exact ih _ _ pc h.2
section WR
variable {p : Program} {l : Launch} {e : Jvm.Env} {s : State} {m : MethodId} {args : Array Value} {below : List Frame} {meth : Method} {c : Code} {n0 ml : Nat} {E : Env4} {A : Nat → Prop} {H : Heap} {cb : ByteArray} {locs : List Loc}
set_option maxHeartbeats 4000000 in
/-- a throw, caught here -/
theorem lthr (B : LB p s m args c cb ml "AlibiDealsLaw" E) (hDL : CDL l) (hfl : l.stackTraces = false) (hinj : injE E n0) (hA : ∀ q, s.heap.size ≤ q → A q) (hZ : zqU A s s.heap) (hN0 : va_Nc (xN 1) (xN 0) s) (hN2 : va_Nc (xN 1) (xN 2) s) {hh : List (Nat × Nat × Nat × Nat)} (htab : c.exceptionTable.toList = tableOf hh) (hret : meth.sig.returnType = some .int) (hlocks : meth.locks = false) {dd : Nat} {pc a index t : Nat} {ps : List Nat} {L : Lcs} {S r : List Value} {M M1 : Mem} {b : Nat} {fs : List Value} {ex : Nat} {x : Int32}
    (hH : HND cb ml hh pc ex x)
    (hdec : decode cb pc = .ok (.invokevirtual index, 3)) (hchk : lchk ml "AlibiDealsLaw" pc (.invokevirtual index) a ps = true) (hb1 : S.drop (mN a) = .ref b :: r) (hm : mget M b = some (eO (mC a) fs)) (h2 : csum r ≤ 8) (h3 : (S.take (mN a)).length = mN a) (hcl : Cl dd a (.ref b :: (S.take (mN a)).reverse) M (.inr ex) M1) :
    LW p l e (rmw dd) s m args below meth c 0 0 0 (MQ below (PostM E (some (.int x)) M1 A) args s 1 6 A) ml n0 E A s.heap pc t L S M := by
  intro ls H locs hl hw hD hS hn
  simp only [Nat.zero_mul, Nat.zero_add, Nat.mul_zero]
  have B0 := B
  obtain ⟨hx, hb, hml, hts, hown, hK, hNw, hXw, -⟩ := B0
  obtain ⟨c1, hT, q, hq, hq2⟩ := lvGood hchk
  obtain ⟨f1, f2, f3, f4, f5, -⟩ := ck_facts c1
  have hM := snd_x l hDL hfl E dd a _ M ex M1 hcl (by rw [hn]; exact hinj) c1 H.size
  have hmp : (Value.ref b :: (S.take (mN a)).reverse).map (trV E.2.2.2.2) = Value.ref (E.2.2.2.2 b) :: ((S.take (mN a)).reverse.map (trV E.2.2.2.2)) := rfl
  have hpre := lpreX B hZ hS (av := Value.ref b :: (S.take (mN a)).reverse) hw (va_A_of hD hA hS)
  rw [hmp] at hpre
  have hrc := va_recv hK hw hq (wz_get (E := E) hm) (q := q)
  rw [hq2] at hrc
  have hr := vx_runV (e := e) (meth := meth) (below := below) (locs := locs) (cells := 0) (slots := 0) (R := rmw dd) (g := F0 m pc ls (S.map (trV E.2.2.2.2))) (As := (S.take (mN a)).reverse.map (trV E.2.2.2.2)) (rest := r.map (trV E.2.2.2.2)) (n := mN a) (Ts := TT) ⟨hx, hb, hml, hown, hts⟩ hM
    (cwV (mN a) hts hT rfl rfl rfl ⟨rfl, f2, f3, f4⟩ ⟨by show dd + 10 + 1 ≤ dd + 12; omega, by show 8 + (mL a + 11) + (60 * dd + 200) ≤ 60 * dd + 300; omega⟩) ⟨preX_blind, hrc, hpre⟩ rfl (by rw [List.length_map, List.length_reverse]; exact h3) hl.1 (lvStack hb1) (lv_room (by rw [csum_map]; exact h2)) hdec ⟨Nat.le_refl 1, Nat.le_refl 6⟩
  intro T hT2 X
  rcases hr T hT2 X with ⟨v, st₀, t1, T', L1, h0, X', hL, e1, e2, hq, st⟩ | ⟨qa, st₀, t1, T', L1, nm, ce, h0, X', hL, e1, e2, hq, hce, hcv, hcl2, st⟩
  · exact hq.elim
  · obtain ⟨hnm, hP1, hF⟩ := hq
    subst hnm
    obtain ⟨k1, k2, k3⟩ := vx_keep h0 e1 hS (fun q _ z => va_A_of hD hA hS q z) (va_A_of hD hA hS) hL hF
    obtain ⟨hx3, pre, z, suf, n, k, hsp, hcv2, hz0, hlk, hpre2, hn3, hkx, qq, hd1, hd2, hd3⟩ := hH
    have hcast : (Cond.castable (xN ex) (xN ex)).before args s = true := by
      match ex, hx3 with
      | 0, _ => exact va_Nw.use rfl (hXw _ (List.mem_of_getElem? (i := 3) rfl))
      | 1, _ => exact va_Nw.use rfl (hXw _ (List.mem_of_getElem? (i := 4) rfl))
      | 2, _ => exact va_Nw.use rfl (hXw _ (List.mem_of_getElem? (i := 5) rfl))
    have hend : ∀ (ls2 : Array Slot), W p l e (rmw dd) s m args below meth c T'.heap (locs ++ L1) 1 6 (MQ below (PostM E (some (.int x)) M1 A) args s 1 6 A) (F0 m (z.handlerPc + qq) ls2 []) := by
      intro ls2
      refine lv_iconst hx hb hd2 hkx ?_
      exact W.zret hx hb hret rfl (fun t ht hW => ⟨⟨rfl, by rw [ht, e1]; exact hP1⟩, k3.F ht⟩) k3.2.2 hd3
    have hcat := vx_catch (p := p) (l := l) (e := e) (R := rmw dd) (s := s) (m := m) (args := args) (below := below) (meth := meth) (c := c) (H := T'.heap) (locs := locs ++ L1) (cells := 1) (slots := 6) (Q := MQ below (PostM E (some (.int x)) M1 A) args s 1 6 A) (pc := pc) (ls := ls) (rest := r.map (trV E.2.2.2.2)) (E := xN ex) (ce := ce) (q := qa) hown pre z suf (htab.trans hsp)
      (fun w hw => by
        obtain ⟨w1, e', w2, w3, w4⟩ := hpre2 w hw
        refine Or.inr ⟨w1, xN e', hts _ w2, ?_⟩
        subst w3
        rcases w4 with rfl | rfl
        · exact hN0
        · exact hN2) hcv2 hz0 (hts _ hlk) hcast (by rw [e1]; exact hce) hcv hcl2 (by
        rcases hd1 with ⟨d1, rfl⟩ | ⟨f, hf, d1, rfl⟩
        · exact lv_astore hx hb d1 hl hn3 rfl (fun ls' _ => hend ls')
        · exact lv_astore_n hx hb d1 hf hl hn3 rfl (fun ls' _ => hend ls'))
    obtain ⟨t2, a1, b1⟩ := hcat T' rfl X'
    exact ⟨t2, st.trans a1, b1⟩
end WR
set_option maxHeartbeats 4000000 in
/-- every run of such a method is a contract of the machine -/
theorem wsnd {l : Launch} (hDL : CDL l) (hfl : l.stackTraces = false) {E : Env4} {dd : Nat} {y : MethodName} {cb : ByteArray} {ml : Nat} {hh : List (Nat × Nat × Nat × Nat)} {rows : List En} {cd : Nat → Option Int32} (hOK : WOK y cb ml hh rows cd) {av : List Value} {M M' : Mem} {x : Int32} (hrun : WRun dd cd rows ml av M x M') (hcs : csum av ≤ ml) (hinj : injE E M.length) :
    WMet l dd y (Cond.codeWith y cb ml (some .int) hh :: TT) E av M x M' := by
  intro sz
  obtain ⟨hy, hyc, hcw, ⟨pss, hch⟩, hns, hhd⟩ := hOK
  refine metWH (cc := cb) (maxL := ml) (ret := some .int) (hh := hh) hy rfl ?_
  intro p e s m args below meth c s₁ B hml hv
  obtain ⟨hv, hN0, hN2⟩ := hv
  obtain ⟨rfl, hsz, hw, hK, hN, hX, hT, hZ⟩ := hv
  subst hsz
  have hts := atoms_spec (ws := Cond.codeWith y cb ml (some .int) hh :: TT) B.pre
  have htab := vx_table (x := y) B (hts _ List.mem_cons_self)
  have hown := findClass_of_methodNamed B.named
  rw [hyc] at hown
  have hB : LB p s m (av.map (trV E.2.2.2.2)).toArray c cb ml "AlibiDealsLaw" E := ⟨B.exec, B.bytes, hml, fun w z => hts w (List.mem_cons_of_mem _ z), hown, hK, hN, hX, hT⟩
  have hAA : ∀ q, s.heap.size ≤ q → va_A (wzf E 0 M) s.heap.size q := fun q z => Or.inr z
  have hDD : va_D (va_A (wzf E 0 M) s.heap.size) (wzf E 0 M) := (va_D_of (A := fun _ => True) hinj (fun _ _ => trivial)).self
  have key : LW p l e (rmw dd) s m (av.map (trV E.2.2.2.2)).toArray below meth c 0 0 0 (MQ below (PostM E (some (.int x)) M' (va_A (wzf E 0 M) s.heap.size)) (av.map (trV E.2.2.2.2)).toArray s 1 6 (va_A (wzf E 0 M) s.heap.size)) ml M.length E (va_A (wzf E 0 M) s.heap.size) s.heap 0 0 (entL ml av) [] M := by
    refine hrun (fun pc t L S N => LW p l e (rmw dd) s m (av.map (trV E.2.2.2.2)).toArray below meth c 0 0 0 (MQ below (PostM E (some (.int x)) M' (va_A (wzf E 0 M) s.heap.size)) (av.map (trV E.2.2.2.2)).toArray s 1 6 (va_A (wzf E 0 M) s.heap.size)) ml M.length E (va_A (wzf E 0 M) s.heap.size) s.heap pc t L S N) ?_
    intro pc t L S N hwI
    rcases fnd_chL rows pss 0 pc hch with hn | ⟨pss', hc⟩
    · rw [hn] at hwI; exact False.elim hwI
    · refine lchain hB (rows := rows) (fun z => by rw [hns] at z; cases z) (fun _ _ _ _ _ z => z) ?_ ?_ ?_ _ pss' pc t L S N (fun x hx => fnd_sub _ _ _ hx) hc hwI
      · intro pc index a t ps L S N K hdec hchk hmem h hk
        obtain ⟨b, r, hb1, h⟩ := stA_inv h
        obtain ⟨ci, fs, hm, h⟩ := gtO_inv h
        obtain ⟨h1, -, h2, h3, h5⟩ := bif_inv (b := ci == mC a) h
        have h1 := eq_of_beq h1
        subst h1
        rcases h5 with ⟨v, M1, hcl, hk2⟩ | ⟨ex, hcl, hcd⟩
        · exact lvirt hB hDL hinj hAA ⟨by show dd + 1 ≤ dd + 12; omega, by show 60 * (dd + 1) ≤ 60 * dd + 300; omega⟩ (by rw [Nat.zero_mul]; exact ⟨Nat.zero_le _, Nat.zero_le _⟩) hdec hchk hb1 hm h2 h3 hcl (hk _ _ _ _ hk2)
        · exact lthr hB hDL hfl hinj hAA hZ hN0 hN2 htab B.returns B.notSynchronized (hhd pc index a hmem ex x hcd) hdec hchk hb1 hm h2 h3 hcl
      · intro pc index a t L S N K _ _ h _
        obtain ⟨-, -, -, y1, M1, h, -⟩ := h
        exact False.elim h
      · intro pc t L S N hdec h
        obtain ⟨-, rfl, rfl⟩ := h
        intro ls H locs hl hw hD hS hn
        simp only [Nat.zero_mul, Nat.zero_add, Nat.mul_zero]
        refine W.widen (k := 1) (n := 6) (by omega) (by omega) ?_
        have hlocks := B.notSynchronized
        exact W.zret B.exec B.bytes B.returns rfl (fun t ht hW => ⟨⟨rfl, by rw [ht]; exact hw⟩, hS.F ht⟩) hS.2.2 hdec
  rw [lg_entry_eq]
  have hl := lv_entry (av.map (trV E.2.2.2.2)) (n := ml) (by rw [csum_lg]; exact hcs)
  have hk2 := key _ _ _ (lv_mono hl (entL_sub E.2.2.2.2 av ml 0)) hw hDD va_S.rf rfl
  simp only [Nat.zero_mul, Nat.zero_add, Nat.mul_zero] at hk2
  exact hk2
