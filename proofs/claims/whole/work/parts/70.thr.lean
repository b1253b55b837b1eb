/-! runs that throw, on the machine: every run of the interpreter that throws is a contract too -/
def xN : Nat → String
  | 0 => "java/lang/IndexOutOfBoundsException"
  | 1 => "java/lang/IllegalStateException"
  | _ => "java/lang/IllegalArgumentException"
def thN : List String := ["java/lang/RuntimeException", "java/lang/Exception"]
def xwords : List Cond := [.declares ⟨"java/lang/RuntimeException", "<init>", "(Ljava/lang/String;)V"⟩, .declares ⟨"java/lang/Exception", "<init>", "(Ljava/lang/String;)V"⟩, .declares ⟨"java/lang/Throwable", "<init>", "(Ljava/lang/String;)V"⟩, .castable (xN 0) (xN 0), .castable (xN 1) (xN 1), .castable (xN 2) (xN 2)]
def xstrs : List (Nat × String) := [(75, "the envelope needs one card of each kind"), (126, "the code is not 33 to 126"), (132, "the buffer is full"), (148, "the buffer is not complete works as a text"), (174, "no state is saved"), (187, "there is no snapshot"), (384, "there is no such card"), (387, "there is no such player"), (389, "there is no such place"), (391, "there is no such triple"), (393, "there is no such suspect"), (395, "there is no such tool"), (397, "there is no such room"), (399, "there is no such clue"), (401, "there are 20 clues"), (403, "the latest work did not stop"), (405, "no deal is left")]
def xcI : Nat → Nat
  | 0 => 386
  | 1 => 77
  | _ => 128
def xkI : Nat → Nat
  | 0 => 382
  | 1 => 73
  | _ => 124
def zpc : List Cond → List Nat → Bool
  | [], _ => true
  | _ :: _, [] => false
  | w :: r, p :: q => (wd p w || decide (w ∈ xwords)) && zpc r q
theorem zpc_ok : ∀ (ws : List Cond) (ps : List Nat), zpc ws ps = true → ∀ w ∈ ws, w ∈ TT ∨ w ∈ xwords := by
  intro ws
  induction ws with
  | nil => intro ps _ w hw; cases hw
  | cons v r ih =>
    intro ps h w hw
    cases ps with
    | nil => cases h
    | cons p q =>
      have h : ((wd p v || decide (v ∈ xwords)) && zpc r q) = true := h
      rw [Bool.and_eq_true, Bool.or_eq_true] at h
      rcases List.mem_cons.mp hw with e | e
      · rw [e]
        rcases h.1 with z | z
        · exact Or.inl (wd_mem z)
        · exact Or.inr (of_decide_eq_true z)
      · exact ih q h.2 w e
set_option maxRecDepth 100000 in
theorem zp_0 : zpc (vx_atS "AlibiDeals" (xcI 0) (xN 0) thN) [104, 664, 673, 677, 680, 682, 665, 666, 119, 120, 667, 672, 678, 698, 654, 699, 656, 700, 658, 668, 670, 660, 694, 695, 697, 660, 685, 686, 687, 688, 646, 688, 689, 690, 691, 648, 691, 692, 693, 694, 650, 684, 643, 644, 651, 652, 653, 655, 657, 659, 663, 662, 661] = true := by decide +kernel
set_option maxRecDepth 100000 in
theorem zq_0 : (Cond.classLink "AlibiDeals" (xkI 0) (xN 0) :: Cond.initialized (xN 0) :: vx_atS "AlibiDeals" (xcI 0) (xN 0) thN).all vx_ot = true := by decide +kernel
set_option maxRecDepth 100000 in
theorem zp_1 : zpc (vx_atS "AlibiDeals" (xcI 1) (xN 1) thN) [104, 664, 673, 677, 680, 682, 665, 666, 119, 120, 667, 672, 678, 698, 654, 699, 656, 700, 658, 668, 670, 660, 694, 695, 697, 660, 778, 779, 780, 688, 646, 688, 689, 690, 691, 648, 691, 692, 693, 694, 650, 777, 768, 769, 770, 676, 771, 772, 773, 774, 663, 662, 775] = true := by decide +kernel
set_option maxRecDepth 100000 in
theorem zq_1 : (Cond.classLink "AlibiDeals" (xkI 1) (xN 1) :: Cond.initialized (xN 1) :: vx_atS "AlibiDeals" (xcI 1) (xN 1) thN).all vx_ot = true := by decide +kernel
set_option maxRecDepth 100000 in
theorem zp_2 : zpc (vx_atS "AlibiDeals" (xcI 2) (xN 2) thN) [104, 664, 673, 677, 680, 682, 665, 666, 119, 120, 667, 672, 678, 698, 654, 699, 656, 700, 658, 668, 670, 660, 694, 695, 697, 660, 923, 924, 925, 688, 646, 688, 689, 690, 691, 648, 691, 692, 693, 694, 650, 922, 913, 914, 915, 675, 916, 917, 918, 919, 663, 662, 920] = true := by decide +kernel
set_option maxRecDepth 100000 in
theorem zq_2 : (Cond.classLink "AlibiDeals" (xkI 2) (xN 2) :: Cond.initialized (xN 2) :: vx_atS "AlibiDeals" (xcI 2) (xN 2) thN).all vx_ot = true := by decide +kernel
theorem zk_0 : (wd 642 (.classLink "AlibiDeals" (xkI 0) (xN 0)) && wd 107 (.initialized (xN 0))) = true := by decide +kernel
theorem zk_1 : (wd 767 (.classLink "AlibiDeals" (xkI 1) (xN 1)) && wd 109 (.initialized (xN 1))) = true := by decide +kernel
theorem zk_2 : (wd 912 (.classLink "AlibiDeals" (xkI 2) (xN 2)) && wd 110 (.initialized (xN 2))) = true := by decide +kernel
/-- what a throw of the class number a needs of the words -/
theorem zx_all {a : Nat} (ha : a < 3) : (∀ w ∈ vx_atS "AlibiDeals" (xcI a) (xN a) thN, w ∈ TT ∨ w ∈ xwords) ∧ (∀ w ∈ Cond.classLink "AlibiDeals" (xkI a) (xN a) :: Cond.initialized (xN a) :: vx_atS "AlibiDeals" (xcI a) (xN a) thN, vx_ot w = true) ∧ Cond.classLink "AlibiDeals" (xkI a) (xN a) ∈ TT ∧ Cond.initialized (xN a) ∈ TT ∧ Bundle.fit (xN a) = true := by
  match a, ha with
  | 0, _ => have h := zk_0; rw [Bool.and_eq_true] at h; exact ⟨zpc_ok _ _ zp_0, fun w hw => List.all_eq_true.mp zq_0 w hw, wd_mem h.1, wd_mem h.2, by decide +kernel⟩
  | 1, _ => have h := zk_1; rw [Bool.and_eq_true] at h; exact ⟨zpc_ok _ _ zp_1, fun w hw => List.all_eq_true.mp zq_1 w hw, wd_mem h.1, wd_mem h.2, by decide +kernel⟩
  | 2, _ => have h := zk_2; rw [Bool.and_eq_true] at h; exact ⟨zpc_ok _ _ zp_2, fun w hw => List.all_eq_true.mp zq_2 w hw, wd_mem h.1, wd_mem h.2, by decide +kernel⟩
theorem thN_fit : ∀ n ∈ thN, Bundle.fit n = true := by decide +kernel
/-- where a throw stands -/
def ThF (k pc a : Nat) : Prop := a < 3 ∧ (mY k).cls = "AlibiDeals" ∧ decode (mB k) pc = .ok (.new (xkI a), 3) ∧ decode (mB k) (pc + 3) = .ok (.dup, 1) ∧ ∃ q ∈ xstrs,
  (decode (mB k) (pc + 4) = .ok (.ldc q.1, 2) ∧ decode (mB k) (pc + 6) = .ok (.invokespecial (xcI a), 3) ∧ decode (mB k) (pc + 9) = .ok (.athrow, 1)) ∨
  (decode (mB k) (pc + 4) = .ok (.ldc_w q.1, 3) ∧ decode (mB k) (pc + 7) = .ok (.invokespecial (xcI a), 3) ∧ decode (mB k) (pc + 10) = .ok (.athrow, 1))
def thL : List (Nat × (Nat × Nat)) := [(kX5_exchange, (28, 1)), (kX5_append, (12, 2)), (kX5_append, (38, 1)), (kX5_work, (21, 2)), (kX5_undo, (15, 1)), (kX5_restore, (7, 1)), (kX5_checkCard, (10, 0)), (kX5_checkPlayer, (9, 0)), (kX5_checkPlace, (9, 0)), (kX5_checkTriple, (10, 0)), (kX5_checkCards, (9, 0)), (kX5_checkCards, (31, 0)), (kX5_checkCards, (54, 0)), (kX5_checkClue, (21, 0)), (kX5_checkRoomForClue, (12, 1)), (kX5_checkStopped, (10, 1)), (kX5_checkSome, (4, 1))]
theorem thf_0 : ThF kX5_exchange 28 1 := ⟨by decide, rfl, by decide +kernel, by decide +kernel, (75, "the envelope needs one card of each kind"), List.mem_of_getElem? (i := 0) rfl, Or.inl ⟨by decide +kernel, by decide +kernel, by decide +kernel⟩⟩
theorem thf_1 : ThF kX5_append 12 2 := ⟨by decide, rfl, by decide +kernel, by decide +kernel, (126, "the code is not 33 to 126"), List.mem_of_getElem? (i := 1) rfl, Or.inl ⟨by decide +kernel, by decide +kernel, by decide +kernel⟩⟩
theorem thf_2 : ThF kX5_append 38 1 := ⟨by decide, rfl, by decide +kernel, by decide +kernel, (132, "the buffer is full"), List.mem_of_getElem? (i := 2) rfl, Or.inl ⟨by decide +kernel, by decide +kernel, by decide +kernel⟩⟩
theorem thf_3 : ThF kX5_work 21 2 := ⟨by decide, rfl, by decide +kernel, by decide +kernel, (148, "the buffer is not complete works as a text"), List.mem_of_getElem? (i := 3) rfl, Or.inl ⟨by decide +kernel, by decide +kernel, by decide +kernel⟩⟩
theorem thf_4 : ThF kX5_undo 15 1 := ⟨by decide, rfl, by decide +kernel, by decide +kernel, (174, "no state is saved"), List.mem_of_getElem? (i := 4) rfl, Or.inl ⟨by decide +kernel, by decide +kernel, by decide +kernel⟩⟩
theorem thf_5 : ThF kX5_restore 7 1 := ⟨by decide, rfl, by decide +kernel, by decide +kernel, (187, "there is no snapshot"), List.mem_of_getElem? (i := 5) rfl, Or.inl ⟨by decide +kernel, by decide +kernel, by decide +kernel⟩⟩
theorem thf_6 : ThF kX5_checkCard 10 0 := ⟨by decide, rfl, by decide +kernel, by decide +kernel, (384, "there is no such card"), List.mem_of_getElem? (i := 6) rfl, Or.inr ⟨by decide +kernel, by decide +kernel, by decide +kernel⟩⟩
theorem thf_7 : ThF kX5_checkPlayer 9 0 := ⟨by decide, rfl, by decide +kernel, by decide +kernel, (387, "there is no such player"), List.mem_of_getElem? (i := 7) rfl, Or.inr ⟨by decide +kernel, by decide +kernel, by decide +kernel⟩⟩
theorem thf_8 : ThF kX5_checkPlace 9 0 := ⟨by decide, rfl, by decide +kernel, by decide +kernel, (389, "there is no such place"), List.mem_of_getElem? (i := 8) rfl, Or.inr ⟨by decide +kernel, by decide +kernel, by decide +kernel⟩⟩
theorem thf_9 : ThF kX5_checkTriple 10 0 := ⟨by decide, rfl, by decide +kernel, by decide +kernel, (391, "there is no such triple"), List.mem_of_getElem? (i := 9) rfl, Or.inr ⟨by decide +kernel, by decide +kernel, by decide +kernel⟩⟩
theorem thf_10 : ThF kX5_checkCards 9 0 := ⟨by decide, rfl, by decide +kernel, by decide +kernel, (393, "there is no such suspect"), List.mem_of_getElem? (i := 10) rfl, Or.inr ⟨by decide +kernel, by decide +kernel, by decide +kernel⟩⟩
theorem thf_11 : ThF kX5_checkCards 31 0 := ⟨by decide, rfl, by decide +kernel, by decide +kernel, (395, "there is no such tool"), List.mem_of_getElem? (i := 11) rfl, Or.inr ⟨by decide +kernel, by decide +kernel, by decide +kernel⟩⟩
theorem thf_12 : ThF kX5_checkCards 54 0 := ⟨by decide, rfl, by decide +kernel, by decide +kernel, (397, "there is no such room"), List.mem_of_getElem? (i := 12) rfl, Or.inr ⟨by decide +kernel, by decide +kernel, by decide +kernel⟩⟩
theorem thf_13 : ThF kX5_checkClue 21 0 := ⟨by decide, rfl, by decide +kernel, by decide +kernel, (399, "there is no such clue"), List.mem_of_getElem? (i := 13) rfl, Or.inr ⟨by decide +kernel, by decide +kernel, by decide +kernel⟩⟩
theorem thf_14 : ThF kX5_checkRoomForClue 12 1 := ⟨by decide, rfl, by decide +kernel, by decide +kernel, (401, "there are 20 clues"), List.mem_of_getElem? (i := 14) rfl, Or.inr ⟨by decide +kernel, by decide +kernel, by decide +kernel⟩⟩
theorem thf_15 : ThF kX5_checkStopped 10 1 := ⟨by decide, rfl, by decide +kernel, by decide +kernel, (403, "the latest work did not stop"), List.mem_of_getElem? (i := 15) rfl, Or.inr ⟨by decide +kernel, by decide +kernel, by decide +kernel⟩⟩
theorem thf_16 : ThF kX5_checkSome 4 1 := ⟨by decide, rfl, by decide +kernel, by decide +kernel, (405, "no deal is left"), List.mem_of_getElem? (i := 16) rfl, Or.inr ⟨by decide +kernel, by decide +kernel, by decide +kernel⟩⟩
theorem thf_all : ∀ q ∈ thL, ThF q.1 q.2.1 q.2.2 := List.forall_mem_cons.mpr ⟨thf_0, List.forall_mem_cons.mpr ⟨thf_1, List.forall_mem_cons.mpr ⟨thf_2, List.forall_mem_cons.mpr ⟨thf_3, List.forall_mem_cons.mpr ⟨thf_4, List.forall_mem_cons.mpr ⟨thf_5, List.forall_mem_cons.mpr ⟨thf_6, List.forall_mem_cons.mpr ⟨thf_7, List.forall_mem_cons.mpr ⟨thf_8, List.forall_mem_cons.mpr ⟨thf_9, List.forall_mem_cons.mpr ⟨thf_10, List.forall_mem_cons.mpr ⟨thf_11, List.forall_mem_cons.mpr ⟨thf_12, List.forall_mem_cons.mpr ⟨thf_13, List.forall_mem_cons.mpr ⟨thf_14, List.forall_mem_cons.mpr ⟨thf_15, List.forall_mem_cons.mpr ⟨thf_16, fun _ h => absurd h List.not_mem_nil⟩⟩⟩⟩⟩⟩⟩⟩⟩⟩⟩⟩⟩⟩⟩⟩⟩
def thC (k : Nat) : Bool := (mP k).all fun e => match e.2.1 with
  | .new _ => decide ((k, (e.1, e.2.2.2)) ∈ thL)
  | _ => true
set_option maxRecDepth 100000 in
theorem thC_all : (List.range nM).all thC = true := by decide +kernel
theorem th_at {k : Nat} (hk : k < nM) {pc x len a : Nat} (h : (pc, Instr.new x, len, a) ∈ mP k) : ThF k pc a := by
  have h1 := List.all_eq_true.mp (List.all_eq_true.mp thC_all k (List.mem_range.mpr hk)) _ h
  exact thf_all _ (of_decide_eq_true h1)
/-! the room, the start and the end of a method that throws -/
def rmx (d : Nat) : Room := { frames := d + 10, cells := 1, slots := 6, locals := 60 * d + 200 }
abbrev zqU (A : Nat → Prop) (U : State) (H : Heap) : Prop := vx_Zq Bundle.tN "UNASSIGNED_STACK" Bundle.steD A U H ∧ vx_Zq Bundle.tN "SUPPRESSED_SENTINEL" Bundle.listD A U H
def PreX (E : Env4) (av : List Value) (M : Mem) (sz : Nat) : Array Value → State → Prop := va_Pc (av.map (trV E.2.2.2.2)) (fun U => U.heap.size = sz ∧ va_P E.1 vwCl (wzf E 0 M) U.heap ∧ va_K E.1 vwCl (tysE E) U ∧ (∀ w ∈ nwords, va_Nw w U) ∧ (∀ w ∈ xwords, va_Nw w U) ∧ (∀ q ∈ xstrs, ∃ sa, vk_R "AlibiDeals" q.1 q.2 sa U) ∧ zqU (va_A (wzf E 0 M) sz) U U.heap)
def XCx (E : Env4) (x : Nat) (M' : Mem) (A : Nat → Prop) : String → State → State → Prop := fun nm st t => nm = xN x ∧ va_P E.1 vwCl (wzf E 0 M') t.heap ∧ va_F A st t
def XMet (l : Launch) (d k : Nat) (E : Env4) (av : List Value) (M : Mem) (x : Nat) (M' : Mem) : Prop :=
  k < nM → ∀ sz, vx_Met l (mY k) (wsk k) (rmx d) (PreX E av M sz) (fun _ _ _ _ => False) (XCx E x M' (va_A (wzf E 0 M) sz)) 1 6 (va_A (wzf E 0 M) sz)
/-- what a walk that throws leans on, more than Bd -/
def BdX (s : State) (meth : Method) (c : Code) (E : Env4) (A : Nat → Prop) : Prop :=
  (∀ w ∈ xwords, va_Nw w s) ∧ (∀ q ∈ xstrs, ∃ sa, vk_R "AlibiDeals" q.1 q.2 sa s) ∧ zqU A s s.heap ∧ (∀ x ∈ c.exceptionTable.toList, False)
theorem xw_warm {s U : State} (hW : s.WarmedH U.vm) (h : ∀ w ∈ xwords, va_Nw w s) : ∀ w ∈ xwords, va_Nw w U := by
  intro w hw
  have h1 := h w hw
  unfold xwords at hw
  simp only [List.mem_cons, List.not_mem_nil, or_false] at hw
  rcases hw with rfl | rfl | rfl | rfl | rfl | rfl
  · exact va_Nw.warmD hW h1
  · exact va_Nw.warmD hW h1
  · exact va_Nw.warmD hW h1
  · exact va_Nw.warmC hW h1
  · exact va_Nw.warmC hW h1
  · exact va_Nw.warmC hW h1
theorem xw_same {u U : State} (hv : u.vm = U.vm) (h : ∀ w ∈ xwords, va_Nw w u) : ∀ w ∈ xwords, va_Nw w U := by
  intro w hw
  have h1 := h w hw
  unfold xwords at hw
  simp only [List.mem_cons, List.not_mem_nil, or_false] at hw
  rcases hw with rfl | rfl | rfl | rfl | rfl | rfl <;> exact va_Nw.same rfl hv h1
theorem preX_blind {E : Env4} {av : List Value} {M : Mem} {sz : Nat} : FrameBlind (PreX E av M sz) := by
  intro a U g mk h
  obtain ⟨q0, q1, qP, qK, qN, qX, qS, qU⟩ := h
  exact ⟨q0, q1, qP, va_K.moved (u := U) (U := U.calling g mk a) (Vm.Alike.refl U.vm) qK, nw_same (u := U) (U := U.calling g mk a) rfl qN, xw_same (u := U) (U := U.calling g mk a) rfl qX, fun q hq => (qS q hq).imp fun sa h => vk_R.same (u := U) (U := U.calling g mk a) rfl h,
    ⟨vx_Zq.moved (u := U) (U := U.calling g mk a) (Vm.Alike.refl U.vm) qU.1, vx_Zq.moved (u := U) (U := U.calling g mk a) (Vm.Alike.refl U.vm) qU.2⟩⟩
section THR
variable {p : Program} {l : Launch} {e : Jvm.Env} {R : Room} {s : State} {m : MethodId} {args : Array Value} {below : List Frame} {meth : Method} {c : Code} {cells slots : Nat} {Q : State → Prop} {k n0 : Nat} {E : Env4} {A : Nat → Prop} {H0 H : Heap} {locs : List Loc}
theorem preX_at (B : Bd p s m args meth c k E) (BX : BdX s meth c E A) (hS : va_S A s.heap H locs) {av : List Value} {M : Mem} (hw : va_P E.1 vwCl (wzf E 0 M) H) (hAA : ∀ q, va_A (wzf E 0 M) H.size q → A q) : ∀ U : State, U.heap = H → s.WarmedH U.vm → PreX E av M H.size (av.map (trV E.2.2.2.2)).toArray U := by
  intro U hU hW
  obtain ⟨-, -, -, -, -, hK, hN, -, -⟩ := B
  obtain ⟨hX, hT, hZ, -⟩ := BX
  refine ⟨rfl, by rw [hU], by rw [hU]; exact hw, va_K.moved hW.alike hK, nw_warm hW hN, xw_warm hW hX, fun q hq => (hT q hq).imp fun sa h => vk_R.warm hW h, ?_, ?_⟩
  · rw [hU]; exact vx_Zq.moved hW.alike ((hZ.1.kept hS.2.1).narrow hAA)
  · rw [hU]; exact vx_Zq.moved hW.alike ((hZ.2.kept hS.2.1).narrow hAA)
/-- a call that throws, not caught here -/
theorem wthrow {pc : Nat} {ls : Array Slot} {rest st0 : List Value} {A1 : Nat → Prop} {free : Addr → Prop} {x0 : Nat} {M0 : Mem} (hr : vx_Run p l e R s m args below meth c H locs 0 0 1 6 (F0 m pc ls st0) rest (fun _ _ _ => False) (XCx E x0 M0 A1) free)
    (BX : BdX s meth c E A) (hS : va_S A s.heap H locs) (hA : ∀ q, q < H.size → A1 q → A q) (hf : ∀ q, free q → A q) (hlocks : meth.locks = false) :
    W p l e R s m args below meth c H locs 0 0 (vx_MQ below (fun _ _ _ _ => False) (XCx E x0 M0 A) args s 1 6 A) (F0 m pc ls st0) := by
  intro T hT X
  rcases hr T hT X with ⟨v, st₀, t, T', L, h0, X', hL, e1, e2, hq, st⟩ | ⟨q, st₀, t, T', L, nm, ce, h0, X', hL, e1, e2, hq, hce, hcv, hcl, st⟩
  · exact hq.elim
  · obtain ⟨hnm, hP, hF⟩ := hq
    obtain ⟨k1, k2, k3⟩ := vx_keep h0 e1 hS hA hf hL hF
    have hout := vx_out (p := p) (l := l) (e := e) (R := R) (s := s) (m := m) (args := args) (below := below) (meth := meth) (c := c) (H := T'.heap) (locs := locs ++ L) (cells := 1) (slots := 6) (free := A) (ls := ls) (rest := rest) (Qc := fun _ _ _ _ => False) (XC := XCx E x0 M0 A) (pc := pc) (E := nm) (ce := ce) (q := q) (mc := 1) (ms := 6)
      (fun x hx => (BX.2.2.2 x hx).elim) hlocks (by rw [e1]; exact hce) hcv hcl (fun t2 ht2 hW2 => ⟨hnm, by rw [ht2, e1]; exact hP, k3.F ht2⟩) k3.2.2 (Nat.le_refl 1) (Nat.le_refl 6)
    obtain ⟨t2, a1, b1⟩ := hout T' rfl X'
    exact ⟨t2, st.trans a1, b1⟩
theorem va_P_grow {D : va_G} {cl : List vw_C} {ws : va_W} {H1 : Heap} (h : va_P D cl ws H) (hz : ∀ q : Nat, q < H.size → H1[q]? = H[q]?) : va_P D cl ws H1 := h.kept fun k q hk => hz _ (vx_lt h hk)
theorem no_DL {d : Nat} {av : List Value} {M M1 : Mem} {x : Nat} (h : Cl d 1999 av M (.inr x) M1) : False := by
  cases d with
  | zero => exact h
  | succ d =>
    rcases h with ⟨-, -, b, -, -, h, -⟩ | ⟨⟨h, -⟩, -⟩
    · cases h
    · exact absurd h (by decide)
set_option maxHeartbeats 4000000 in
theorem sx_virt {d : Nat} (hDL : CDL l) (ih : ∀ (k : Nat) (av : List Value) (M : Mem) (v : Option Value) (M' : Mem), Cl d k av M (.inl v) M' → injE E M.length → CMet l d k E av M v M')
    (B : Bd p s m args meth c k E) {x0 : Nat} {M0 : Mem} (hR : R = rmx (d + 1)) (hcs : cells = 0 ∧ slots = 0) (hinj : injE E n0) (hA : ∀ q, H0.size ≤ q → A q) {pc a index : Nat} {ps : List Nat} {ret : Res → Mem → Prop} {P : Nat → Lcs → List Value → Mem → Prop} {K : Lcs → List Value → Mem → Prop} {L : Lcs} {S : List Value} {M : Mem}
    (hdec : decode (mB k) pc = .ok (.invokevirtual index, 3)) (hchk : chV k index a ps = true) (h : sI (Cl d) ret (mR k) P pc a (.invokevirtual index) L S M K) (hQ : ∀ y N, ret (.inr y) N → y = x0 ∧ N = M0) (hQQ : Q = vx_MQ below (fun _ _ _ _ => False) (XCx E x0 M0 A) args s 1 6 A)
    (ihx : ∀ (k : Nat) (av : List Value) (M : Mem) (x : Nat) (M' : Mem), Cl d k av M (.inr x) M' → injE E M.length → XMet l d k E av M x M') (BX : BdX s meth c E A) (hH0 : H0 = s.heap)
    (hk : ∀ (L : Lcs) (S : List Value) (M : Mem), K L S M → Wst p l e R s m args below meth c cells slots Q k n0 E A H0 (pc + 3) L S M) :
    Wst p l e R s m args below meth c cells slots Q k n0 E A H0 pc L S M := by
  intro ls H locs hl hw hD hS hn
  have B0 := B
  obtain ⟨hx, hb, hml, hts, hown, hK, hNw, hrr, hlocks⟩ := B0
  obtain ⟨b, r, hb1, h⟩ := stA_inv h
  obtain ⟨ci, fs, hm, h⟩ := gtO_inv h
  obtain ⟨h1, h2, h3, h⟩ := bif_inv (b := ci == mC a) h
  have h1 := eq_of_beq h1
  unfold chV at hchk
  simp only [Bool.and_eq_true, decide_eq_true_eq] at hchk
  obtain ⟨⟨⟨⟨⟨c1, c2⟩, c3⟩, c4⟩, c5⟩, c6⟩ := hchk
  obtain ⟨f1, f2, f3, f4, f5, -⟩ := ck_facts c1
  obtain ⟨q, hq, hq2⟩ := Option.map_eq_some_iff.mp c6
  have hwd : csum r ≤ 8 := h2
  have hT : GoodIn TT (wsV (mY k).cls index (mY a).cls (mY a) (wsk a)) := by
    intro w hw
    rcases List.mem_append.mp hw with hw | hw
    · simp only [List.mem_cons, List.not_mem_nil, or_false] at hw
      rcases hw with rfl | rfl | rfl | rfl
      · exact TT_good (wd_mem c2)
      · exact TT_good (wd_mem c3)
      · exact TT_good (wd_mem c4)
      · exact TT_good (wd_mem c5)
    · exact wsk_good c1 w hw
  have hmp : (Value.ref b :: (S.take (mN a)).reverse).map (trV E.2.2.2.2) = Value.ref (E.2.2.2.2 b) :: ((S.take (mN a)).reverse.map (trV E.2.2.2.2)) := rfl
  have hst : S.map (trV E.2.2.2.2) = ((S.take (mN a)).reverse.map (trV E.2.2.2.2)).reverse ++ Value.ref (E.2.2.2.2 b) :: r.map (trV E.2.2.2.2) := by
    rw [← List.map_reverse, List.reverse_reverse]
    have e1 : S.take (mN a) ++ S.drop (mN a) = S := List.take_append_drop _ _
    conv => lhs; rw [← e1, hb1]
    rw [List.map_append]; rfl
  have hpre := preM_at B (av := Value.ref b :: (S.take (mN a)).reverse) hw
  rw [hmp] at hpre
  subst hR
  obtain ⟨rfl, rfl⟩ := hcs
  rcases h with ⟨v, M1, hcl, h⟩ | ⟨y, M1, hcl, hy⟩
  · have hM := ih a _ M v M1 hcl (by rw [hn]; exact hinj) c1 H.size
    refine wcall (M1 := M1) (v := v) (va_runV (As := (S.take (mN a)).reverse.map (trV E.2.2.2.2)) (rest := r.map (trV E.2.2.2.2)) (n := mN a) (Ts := TT) ⟨hx, hb, hml, hown, hts⟩ hM
      (cwV (mN a) hts hT rfl rfl rfl ⟨rfl, f2, f3, f4⟩ ⟨by show d + 1 ≤ d + 1 + 10; omega, by show 8 + (mL a + 11) + 60 * d ≤ 60 * (d + 1) + 200; omega⟩) ⟨preM_blind, ?_, hpre⟩ rfl (by rw [List.length_map, List.length_reverse]; exact h3) hl.1 hst (lv_room (by rw [csum_map]; exact hwd)) hdec ⟨Nat.zero_le 1, Nat.zero_le 6⟩) post_of hS (fun q _ z => va_A_of hD hA hS q z) (va_A_of hD hA hS) (fun H1 locs1 p1 s1 => ?_)
    · have hm2 : mget M b = some (eO (mC a) fs) := by rw [← h1]; exact hm
      have hrc := va_recv hK hw hq (wz_get (E := E) hm2) (q := q)
      rw [hq2] at hrc
      exact hrc
    · rw [toL_map]
      have hn1 : M1.length = n0 := (Cl_len hcl).trans hn
      exact hk _ _ _ h ls H1 locs1 hl p1 (va_D_of (by rw [hn1]; exact hinj) (fun i hi => by
        have hi2 : i < (wzf E 0 M).length := by rw [wzf_len, hn, ← hn1]; exact hi
        have g := hD.2 i _ (List.getElem?_eq_getElem hi2)
        have g2 := (wzf_inv E M 0 i _ (List.getElem?_eq_getElem hi2)).2
        rw [Nat.zero_add] at g2
        rw [← g2]; exact g)) s1 hn1
  · obtain ⟨rfl, rfl⟩ := hQ _ _ hy
    subst hQQ
    have hM := ihx a _ M y M1 hcl (by rw [hn]; exact hinj) c1 H.size
    have hxp := preX_at B BX (hH0 ▸ hS) (av := Value.ref b :: (S.take (mN a)).reverse) hw (va_A_of hD hA hS)
    rw [hmp] at hxp
    refine wthrow (A1 := va_A (wzf E 0 M) H.size) (vx_runV (As := (S.take (mN a)).reverse.map (trV E.2.2.2.2)) (rest := r.map (trV E.2.2.2.2)) (n := mN a) (Ts := TT) ⟨hx, hb, hml, hown, hts⟩ hM
      (cwV (mN a) hts hT rfl rfl rfl ⟨rfl, f2, f3, f4⟩ ⟨by show d + 10 + 1 ≤ d + 1 + 10; omega, by show 8 + (mL a + 11) + (60 * d + 200) ≤ 60 * (d + 1) + 200; omega⟩) ⟨preX_blind, ?_, hxp⟩ rfl (by rw [List.length_map, List.length_reverse]; exact h3) hl.1 hst (lv_room (by rw [csum_map]; exact hwd)) hdec ⟨Nat.le_refl 1, Nat.le_refl 6⟩) BX (hH0 ▸ hS) (fun q _ z => va_A_of hD hA hS q z) (va_A_of hD hA hS) hlocks
    have hm2 : mget M b = some (eO (mC a) fs) := by rw [← h1]; exact hm
    have hrc := va_recv hK hw hq (wz_get (E := E) hm2) (q := q)
    rw [hq2] at hrc
    exact hrc
set_option maxHeartbeats 4000000 in
theorem sx_stat {d : Nat} (hDL : CDL l) (ih : ∀ (k : Nat) (av : List Value) (M : Mem) (v : Option Value) (M' : Mem), Cl d k av M (.inl v) M' → injE E M.length → CMet l d k E av M v M')
    (B : Bd p s m args meth c k E) {x0 : Nat} {M0 : Mem} (hR : R = rmx (d + 1)) (hcs : cells = 0 ∧ slots = 0) (hinj : injE E n0) (hA : ∀ q, H0.size ≤ q → A q) {pc a index : Nat} {ps : List Nat} {ret : Res → Mem → Prop} {P : Nat → Lcs → List Value → Mem → Prop} {K : Lcs → List Value → Mem → Prop} {L : Lcs} {S : List Value} {M : Mem}
    (hdec : decode (mB k) pc = .ok (.invokestatic index, 3)) (hchk : chS k index a ps = true) (h : sI (Cl d) ret (mR k) P pc a (.invokestatic index) L S M K) (hQ : ∀ y N, ret (.inr y) N → y = x0 ∧ N = M0) (hQQ : Q = vx_MQ below (fun _ _ _ _ => False) (XCx E x0 M0 A) args s 1 6 A)
    (ihx : ∀ (k : Nat) (av : List Value) (M : Mem) (x : Nat) (M' : Mem), Cl d k av M (.inr x) M' → injE E M.length → XMet l d k E av M x M') (BX : BdX s meth c E A) (hH0 : H0 = s.heap)
    (hk : ∀ (L : Lcs) (S : List Value) (M : Mem), K L S M → Wst p l e R s m args below meth c cells slots Q k n0 E A H0 (pc + 3) L S M) :
    Wst p l e R s m args below meth c cells slots Q k n0 E A H0 pc L S M := by
  intro ls H locs hl hw hD hS hn
  have B0 := B
  obtain ⟨hx, hb, hml, hts, hown, hK, hNw, hrr, hlocks⟩ := B0
  have h : (bif a == 1999 then stD S (fun x r => csum r ≤ 8 ∧ clr (Cl d) ret 1999 [.double x] M fun v M' => K L (v ++ r) M')
    else bif a == 1998 then mxK S fun x y r => csum r ≤ 8 ∧ K L (.int (if x < y then y else x) :: r) M
    else csum (S.drop (mN (a % 1000))) ≤ 8 ∧ (S.take (mN (a % 1000))).length = mN (a % 1000) ∧ clr (Cl d) ret (a % 1000) (S.take (mN (a % 1000))).reverse M fun v M' => K L (v ++ S.drop (mN (a % 1000))) M') := h
  subst hR
  obtain ⟨rfl, rfl⟩ := hcs
  cases ha : (a == 1999) with
  | true =>
    rw [ha] at h
    have ha := eq_of_beq ha
    subst ha
    obtain ⟨x, r, rfl, hwd, h⟩ := stD_inv h
    obtain ⟨v, M1, hcl, h⟩ := Or.resolve_right h (fun ⟨x, M1, q, _⟩ => no_DL q)
    have had := aft_D hcl hn hinj hD
    cases d with
    | zero => exact False.elim hcl
    | succ d =>
      obtain ⟨-, hd2, b, hb1, hb2, hb3, hb4⟩ := Or.resolve_right hcl (fun q => absurd q.1.1 (by decide))
      have hb1 : x = b := by injection hb1 with q; injection q
      subst hb1
      subst hb4
      have hb3 : v = some (.long x.toInt64) := by injection hb3
      subst hb3
      unfold chS at hchk
      rw [if_pos rfl] at hchk
      simp only [Bool.and_eq_true] at hchk
      obtain ⟨⟨c1, c2⟩, c3⟩ := hchk
      have hT : GoodIn TT (va_wsS (mY k).cls index yDL wskD) := by
        intro w hw
        rcases List.mem_append.mp hw with hw | hw
        · simp only [List.mem_cons, List.not_mem_nil, or_false] at hw
          rcases hw with rfl | rfl | rfl
          · exact TT_good (wd_mem c1)
          · exact TT_good (wd_mem c2)
          · exact TT_good (wd_mem c3)
        · rcases List.mem_cons.mp hw with hw | hw
          · rw [hw]; exact TT_good dl_code
          · exact TT_good hw
      refine wcall (M1 := M1) (v := some (.long x.toInt64)) (A1 := fun _ => False) (va_runS (As := [.double x]) (rest := r.map (trV E.2.2.2.2)) (n := 1) (Ts := TT) ⟨hx, hb, hml, hown, hts⟩ (hDL (d + 1) x (by omega) hb2)
        (va_cwS 1 hts hT rfl rfl rfl ⟨by decide, by decide, by decide +kernel⟩ ⟨by show d + 1 + 1 ≤ d + 1 + 1 + 10; omega, by show 8 + (2 + 11) + 60 * (d + 1) ≤ 60 * (d + 1 + 1) + 200; omega⟩) ⟨fun _ _ _ _ q => q, fun _ _ _ => ⟨rfl, trivial⟩⟩ rfl rfl hl.1 rfl (lv_room (by rw [csum_map]; exact hwd)) hdec ⟨Nat.zero_le 1, Nat.zero_le 6⟩)
        (fun st t o hst hq => ⟨⟨hq.1, by rw [hq.2, hst]; exact hw⟩, Nat.le_of_eq (by rw [hq.2]), fun q _ _ => by rw [hq.2]⟩) hS (fun _ _ z => z.elim) (fun _ z => z.elim) (fun H1 locs1 p1 s1 => ?_)
      exact hk _ _ _ h ls H1 locs1 hl p1 had.1 s1 had.2
  | false =>
    rw [ha] at h
    have ha9 : ¬ a = 1999 := fun q => by rw [q] at ha; cases ha
    unfold chS at hchk
    rw [if_neg ha9] at hchk
    cases hb8 : (a == 1998) with
    | true =>
      rw [hb8] at h
      have ha := eq_of_beq hb8
      subst ha
      rw [if_pos rfl] at hchk
      simp only [Bool.and_eq_true] at hchk
      obtain ⟨⟨c1, c2⟩, c3⟩ := hchk
      obtain ⟨x, y, r, e0, h⟩ := mxK_inv h
      subst e0
      · exact va_mmax hx hb (hml.trans hl.1.symm) hown (hts _ (wd_mem c1)) (hts _ (wd_mem c2)) (hts _ (wd_mem c3)) (hts _ mx_code) (by show 1 ≤ d + 1 + 10; omega) (by
          rw [csum_map]; show csum r + 13 ≤ 60 * (d + 1) + 200; have := h.1; omega) (Nat.zero_le 1) (Nat.zero_le 6) hdec (hk _ _ _ h.2 ls H locs hl hw hD hS hn)
    | false =>
    rw [hb8] at h
    have ha8 : ¬ a = 1998 := fun q => by rw [q] at hb8; cases hb8
    rw [if_neg ha8] at hchk
    obtain ⟨hwd, h3, h⟩ := h
    simp only [Bool.and_eq_true] at hchk
    obtain ⟨⟨c1, c2⟩, c3⟩ := hchk
    have hmp : (S.take (mN (a % 1000))).reverse.map (trV E.2.2.2.2) = (S.take (mN (a % 1000))).reverse.map (trV E.2.2.2.2) := rfl
    have hst : S.map (trV E.2.2.2.2) = ((S.take (mN (a % 1000))).reverse.map (trV E.2.2.2.2)).reverse ++ (S.drop (mN (a % 1000))).map (trV E.2.2.2.2) := by
      rw [← List.map_reverse, List.reverse_reverse, ← List.map_append, List.take_append_drop]
    have hpre := preM_at B (av := (S.take (mN (a % 1000))).reverse) hw
    unfold chN at c1
    by_cases hlt : a < 1000
    · rw [if_pos hlt] at c1
      simp only [Bool.and_eq_true, decide_eq_true_eq] at c1
      obtain ⟨c1, c4⟩ := c1
      have hmod : a % 1000 = a := Nat.mod_eq_of_lt hlt
      rw [hmod] at h3 h c2 c3 hst hpre hwd
      obtain ⟨f1, f2, f3, f4, f5, -⟩ := ck_facts c1
      have hT : GoodIn TT (va_wsS (mY k).cls index (mY a) (wsk a)) := by
        intro w hw
        rcases List.mem_append.mp hw with hw | hw
        · simp only [List.mem_cons, List.not_mem_nil, or_false] at hw
          rcases hw with rfl | rfl | rfl
          · exact TT_good (wd_mem c4)
          · exact TT_good (wd_mem c2)
          · exact TT_good (wd_mem c3)
        · exact wsk_good c1 w hw
      rcases h with ⟨v, M1, hcl, h⟩ | ⟨y, M1, hcl, hy⟩
      · have hM := ih a _ M v M1 hcl (by rw [hn]; exact hinj) c1 H.size
        have had := aft_D hcl hn hinj hD
        refine wcall (M1 := M1) (v := v) (va_runS (As := (S.take (mN a)).reverse.map (trV E.2.2.2.2)) (rest := (S.drop (mN a)).map (trV E.2.2.2.2)) (n := mN a) (Ts := TT) ⟨hx, hb, hml, hown, hts⟩ hM
          (va_cwS (mN a) hts hT rfl rfl rfl ⟨f2, f3, f4⟩ ⟨by show d + 1 ≤ d + 1 + 10; omega, by show 8 + (mL a + 11) + 60 * d ≤ 60 * (d + 1) + 200; omega⟩) ⟨preM_blind, hpre⟩ rfl (by rw [List.length_map, List.length_reverse]; exact h3) hl.1 hst (lv_room (by rw [csum_map]; exact hwd)) hdec ⟨Nat.zero_le 1, Nat.zero_le 6⟩) post_of hS (fun q _ z => va_A_of hD hA hS q z) (va_A_of hD hA hS) (fun H1 locs1 p1 s1 => ?_)
        rw [toL_map]
        exact hk _ _ _ h ls H1 locs1 hl p1 had.1 s1 had.2
      · obtain ⟨rfl, rfl⟩ := hQ _ _ hy
        subst hQQ
        have hM := ihx a _ M y M1 hcl (by rw [hn]; exact hinj) c1 H.size
        have hxp := preX_at B BX (hH0 ▸ hS) (av := (S.take (mN a)).reverse) hw (va_A_of hD hA hS)
        exact wthrow (A1 := va_A (wzf E 0 M) H.size) (vx_runS (As := (S.take (mN a)).reverse.map (trV E.2.2.2.2)) (rest := (S.drop (mN a)).map (trV E.2.2.2.2)) (n := mN a) (Ts := TT) ⟨hx, hb, hml, hown, hts⟩ hM
          (va_cwS (mN a) hts hT rfl rfl rfl ⟨f2, f3, f4⟩ ⟨by show d + 10 + 1 ≤ d + 1 + 10; omega, by show 8 + (mL a + 11) + (60 * d + 200) ≤ 60 * (d + 1) + 200; omega⟩) ⟨preX_blind, hxp⟩ rfl (by rw [List.length_map, List.length_reverse]; exact h3) hl.1 hst (lv_room (by rw [csum_map]; exact hwd)) hdec ⟨Nat.le_refl 1, Nat.le_refl 6⟩) BX (hH0 ▸ hS) (fun q _ z => va_A_of hD hA hS q z) (va_A_of hD hA hS) hlocks
    · rw [if_neg hlt] at c1
      simp only [Bool.and_eq_true, decide_eq_true_eq] at c1
      obtain ⟨c1, c4⟩ := c1
      have hnM : nM = 261 := rfl
      have hmod : a % 1000 = a - 1000 := by omega
      rw [hmod] at h3 h c2 c3 hst hpre hwd
      generalize a - 1000 = a' at c1 c4 h3 h c2 c3 hst hpre hwd
      obtain ⟨f1, f2, f3, f4, f5, -⟩ := ck_facts c1
      rcases h with ⟨v, M1, hcl, h⟩ | ⟨y, M1, hcl, hy⟩
      · have hM := ih a' _ M v M1 hcl (by rw [hn]; exact hinj) c1 H.size
        have had := aft_D hcl hn hinj hD
        refine wcall (M1 := M1) (v := v) (va_runSN (host := "AlibiDeals") (As := (S.take (mN a')).reverse.map (trV E.2.2.2.2)) (rest := (S.drop (mN a')).map (trV E.2.2.2.2)) (n := mN a') (Ts := TT) ⟨hx, hb, hml, hown, hts⟩ hM
          ⟨va_cnB (mN a') hts (fun w z => wsk_good c1 w z) rfl rfl rfl (hNw _ c4) (hts _ (wd_mem c3)) ⟨f2, f3, f4⟩ ⟨by show d + 1 ≤ d + 1 + 10; omega, by show 8 + (mL a' + 11) + 60 * d ≤ 60 * (d + 1) + 200; omega⟩, hts _ (wd_mem c2), trivial⟩ ⟨preM_blind, hpre⟩ rfl (by rw [List.length_map, List.length_reverse]; exact h3) hl.1 hst (lv_room (by rw [csum_map]; exact hwd)) hdec ⟨Nat.zero_le 1, Nat.zero_le 6⟩) post_of hS (fun q _ z => va_A_of hD hA hS q z) (va_A_of hD hA hS) (fun H1 locs1 p1 s1 => ?_)
        rw [toL_map]
        exact hk _ _ _ h ls H1 locs1 hl p1 had.1 s1 had.2
      · obtain ⟨rfl, rfl⟩ := hQ _ _ hy
        subst hQQ
        have hM := ihx a' _ M y M1 hcl (by rw [hn]; exact hinj) c1 H.size
        have hxp := preX_at B BX (hH0 ▸ hS) (av := (S.take (mN a')).reverse) hw (va_A_of hD hA hS)
        exact wthrow (A1 := va_A (wzf E 0 M) H.size) (vx_runSN (host := "AlibiDeals") (As := (S.take (mN a')).reverse.map (trV E.2.2.2.2)) (rest := (S.drop (mN a')).map (trV E.2.2.2.2)) (n := mN a') (Ts := TT) ⟨hx, hb, hml, hown, hts⟩ hM
          ⟨va_cnB (mN a') hts (fun w z => wsk_good c1 w z) rfl rfl rfl (hNw _ c4) (hts _ (wd_mem c3)) ⟨f2, f3, f4⟩ ⟨by show d + 10 + 1 ≤ d + 1 + 10; omega, by show 8 + (mL a' + 11) + (60 * d + 200) ≤ 60 * (d + 1) + 200; omega⟩, hts _ (wd_mem c2), trivial⟩ ⟨preX_blind, hxp⟩ rfl (by rw [List.length_map, List.length_reverse]; exact h3) hl.1 hst (lv_room (by rw [csum_map]; exact hwd)) hdec ⟨Nat.le_refl 1, Nat.le_refl 6⟩) BX (hH0 ▸ hS) (fun q _ z => va_A_of hD hA hS q z) (va_A_of hD hA hS) hlocks
/-- the throw itself -/
theorem sx_new {d : Nat} (B : Bd p s m args meth c k E) (hkM : k < nM) (hR : R = rmx (d + 1)) (hfl : l.stackTraces = false) (BX : BdX s meth c E A) {pc a index len : Nat} {L : Lcs} {M : Mem}
    (hmem : (pc, Instr.new index, len, a) ∈ mP k) :
    Wst p l e R s m args below meth c 0 0 (vx_MQ below (fun _ _ _ _ => False) (XCx E a M A) args s 1 6 A) k n0 E A s.heap pc L [] M := by
  intro ls H locs hl hw hD hS hn
  obtain ⟨hx, hb, hml, hts, hown, hK, hNw, hrr, hlocks⟩ := B
  obtain ⟨ha, hcls, d0, d3, q, hq, hd⟩ := th_at hkM hmem
  obtain ⟨z1, z2, z3, z4, z5⟩ := zx_all ha
  obtain ⟨hX, hT, hZ, hno⟩ := BX
  obtain ⟨sa, hstr⟩ := hT q hq
  rw [hcls] at hown
  subst hR
  have hat : ∀ w ∈ vx_atS "AlibiDeals" (xcI a) (xN a) thN, w.before args s = true := fun w hw => by
    rcases z1 w hw with h | h
    · exact hts w h
    · have h1 := hX w h
      unfold xwords at h
      simp only [List.mem_cons, List.not_mem_nil, or_false] at h
      rcases h with rfl | rfl | rfl | rfl | rfl | rfl <;> exact va_Nw.use rfl h1
  have hXC : ∀ t : State, s.vm.Alike t.vm → H.size ≤ t.heap.size → (∀ q : Nat, q < H.size → t.heap[q]? = H[q]?) → XCx E a M A (xN a) s t := fun t _ h1 h2 => ⟨rfl, va_P_grow hw h2, ⟨Nat.le_trans hS.1 h1, fun q h3 h4 => by rw [h2 q (Nat.lt_of_lt_of_le h3 hS.1)]; exact hS.2.1 q h3 h4⟩⟩
  rcases hd with ⟨d4, d6, d9⟩ | ⟨d4, d7, d10⟩
  · exact vx_throwS (A := A) (rest := []) hx hb hfl hown z5 thN_fit (hts _ z3) (hts _ z4) hstr hat z2 hZ.1 hZ.2 hS (hl.1.trans hml.symm) d0 d3 d4 d6 d9 (fun x hx => (hno x hx).elim)
      (by show 2 + 3 < d + 1 + 10; omega) (by show 0 + (13 * (2 + 1) + 43) ≤ 60 * (d + 1) + 200; omega) (Nat.le_refl 1) (Nat.le_refl 6) hlocks hXC hS.2.2 (Nat.le_refl 1) (Nat.le_refl 6)
  · exact vx_throwSW (A := A) (rest := []) hx hb hfl hown z5 thN_fit (hts _ z3) (hts _ z4) hstr hat z2 hZ.1 hZ.2 hS (hl.1.trans hml.symm) d0 d3 d4 d7 d10 (fun x hx => (hno x hx).elim)
      (by show 2 + 3 < d + 1 + 10; omega) (by show 0 + (13 * (2 + 1) + 43) ≤ 60 * (d + 1) + 200; omega) (Nat.le_refl 1) (Nat.le_refl 6) hlocks hXC hS.2.2 (Nat.le_refl 1) (Nat.le_refl 6)
theorem fnd_sub : ∀ (r : List En) (pc : Nat) (x : En), x ∈ fnd r pc → x ∈ r := by
  intro r
  induction r with
  | nil => intro pc x h; exact h
  | cons y r ih =>
    intro pc x h
    have h : x ∈ (bif y.1 == pc && nnop y.2.1 then y :: r else fnd r pc) := h
    cases hb : (y.1 == pc && nnop y.2.1) with
    | true => rw [hb] at h; exact h
    | false => rw [hb] at h; exact List.mem_cons_of_mem _ (ih pc x h)
theorem sx_ret {i : Instr} {pc a : Nat} {call : Nat → List Value → Mem → Res → Mem → Prop} {rt : Option FieldType} {P : Nat → Lcs → List Value → Mem → Prop} {K : Lcs → List Value → Mem → Prop} {L : Lcs} {S : List Value} {M : Mem} {x0 : Nat} {M0 : Mem}
    (hi : isRet i = true) (h : sI call (fun r N => r = .inr x0 ∧ N = M0) rt P pc a i L S M K) : False := by
  cases i
  all_goals first
    | exact Bool.noConfusion hi
    | exact absurd hi (by decide)
    | skip
  case ireturn => obtain ⟨x, r, -, -, -, h1, -⟩ := stI_inv h; cases h1
  case lreturn => obtain ⟨x, r, -, -, -, h1, -⟩ := stJ_inv h; cases h1
  case dreturn => obtain ⟨x, r, -, -, -, h1, -⟩ := stD_inv h; cases h1
  case areturn => obtain ⟨x, r, -, -, -, h1, -⟩ := stA_inv h; cases h1
  case return_ => obtain ⟨-, -, h1, -⟩ := h; cases h1
set_option maxHeartbeats 4000000 in
theorem sx_chain {d : Nat} (hDL : CDL l) (ih : ∀ (k : Nat) (av : List Value) (M : Mem) (v : Option Value) (M' : Mem), Cl d k av M (.inl v) M' → injE E M.length → CMet l d k E av M v M') (ihx : ∀ (k : Nat) (av : List Value) (M : Mem) (x : Nat) (M' : Mem), Cl d k av M (.inr x) M' → injE E M.length → XMet l d k E av M x M')
    (B : Bd p s m args meth c k E) (BX : BdX s meth c E A) (hkM : k < nM) (hfl : l.stackTraces = false) (hinj : injE E n0) (hA : ∀ q, s.heap.size ≤ q → A q) {P : Nat → Lcs → List Value → Mem → Prop} {x0 : Nat} {M0 : Mem}
    (hP : ∀ (pc : Nat) (L : Lcs) (S : List Value) (M : Mem), P pc L S M → Wst p l e (rmx (d + 1)) s m args below meth c 0 0 (vx_MQ below (fun _ _ _ _ => False) (XCx E x0 M0 A) args s 1 6 A) k n0 E A s.heap pc L S M) :
    ∀ (r : List En) (pss : List (List Nat)) (q : Nat) (L : Lcs) (S : List Value) (M : Mem), (∀ x ∈ r, x ∈ mP k) → chE k r pss q = true → wI (Cl d) (fun r N => r = .inr x0 ∧ N = M0) (mR k) P r L S M →
      Wst p l e (rmx (d + 1)) s m args below meth c 0 0 (vx_MQ below (fun _ _ _ _ => False) (XCx E x0 M0 A) args s 1 6 A) k n0 E A s.heap q L S M := by
  intro r
  induction r with
  | nil => intro pss q L S M _ _ h; exact False.elim h
  | cons x r ihr =>
    intro pss q L S M hr hc h
    obtain ⟨pc, i, len, a⟩ := x
    have h : sI (Cl d) (fun r N => r = .inr x0 ∧ N = M0) (mR k) P pc a i L S M (fun L' S' M' => wI (Cl d) (fun r N => r = .inr x0 ∧ N = M0) (mR k) P r L' S' M') := h
    unfold chE at hc
    split at hc
    · rename_i hpc
      rw [Bool.and_eq_true] at hc
      have hi := of_decide_eq_true hc.1
      subst hi
      have h : P (pc - 100000) (mkL a L) S M := h
      rw [hpc, Nat.add_sub_cancel] at h
      intro ls H locs hl
      exact hP _ _ _ _ h ls H locs (lv_mkL hl _)
    · simp only [Bool.and_eq_true, decide_eq_true_eq] at hc
      obtain ⟨⟨⟨⟨e1, e2⟩, e3⟩, e4⟩, e5⟩ := hc
      subst e1
      have hk : ∀ (L : Lcs) (S : List Value) (M : Mem), wI (Cl d) (fun r N => r = .inr x0 ∧ N = M0) (mR k) P r L S M → Wst p l e (rmx (d + 1)) s m args below meth c 0 0 (vx_MQ below (fun _ _ _ _ => False) (XCx E x0 M0 A) args s 1 6 A) k n0 E A s.heap (pc + len) L S M :=
        fun L S M z => ihr _ _ L S M (fun x hx => hr x (List.mem_cons_of_mem _ hx)) e5 z
      rcases class_of i with hi | hi | ⟨x, rfl⟩ | ⟨x, rfl⟩ | ⟨x, rfl⟩ | rfl
      · exact snd_plain B hi e2 e3 e4 h hP hk
      · exact (sx_ret hi h).elim
      · have hl1 : len = 3 := il_of e3 rfl (by decide)
        subst hl1
        exact sx_virt hDL ih B rfl ⟨rfl, rfl⟩ hinj hA e2 e4 h (fun y N z => ⟨by injection z.1, z.2⟩) rfl ihx BX rfl hk
      · have hl1 : len = 3 := il_of e3 rfl (by decide)
        subst hl1
        exact sx_stat hDL ih B rfl ⟨rfl, rfl⟩ hinj hA e2 e4 h (fun y N z => ⟨by injection z.1, z.2⟩) rfl ihx BX rfl hk
      · match S, h with
        | [], h =>
          obtain ⟨h1, h2⟩ := (show (Sum.inr a : Res) = .inr x0 ∧ M = M0 from h)
          have h1 : a = x0 := by injection h1
          subst h1; subst h2
          exact sx_new B hkM rfl hfl BX (hr _ List.mem_cons_self)
      · exact Bool.noConfusion e4
end THR
set_option maxHeartbeats 4000000 in
/-- every run of the interpreter that throws is a contract of the machine -/
theorem snd_x (l : Launch) (hDL : CDL l) (hfl : l.stackTraces = false) (E : Env4) : ∀ (d k : Nat) (av : List Value) (M : Mem) (x : Nat) (M' : Mem), Cl d k av M (.inr x) M' → injE E M.length → XMet l d k E av M x M' := by
  intro d
  induction d with
  | zero => intro k av M x M' h; exact False.elim h
  | succ d ih =>
    intro k av M x M' h hinj hkM sz
    rcases h with ⟨h, -⟩ | ⟨⟨-, hcs, hlen⟩, hgo⟩
    · subst h; exact absurd hkM (by decide)
    obtain ⟨f1, f2, f3, f4, f5, pss, f6⟩ := ck_facts hkM
    refine vx_ofW (cc := mB k) (maxL := mL k) (ret := mR k) f1 rfl ?_
    intro p e s m args below meth c s₁ B hml hno hv
    obtain ⟨rfl, hsz, hw, hK, hN, hX, hT, hZ⟩ := hv
    subst hsz
    have hts := atoms_spec (ws := wsk k) B.pre
    have hB : Bd p s m (av.map (trV E.2.2.2.2)).toArray meth c k E := ⟨B.exec, B.bytes, hml, fun w z => hts w (List.mem_cons_of_mem _ z), findClass_of_methodNamed B.named, hK, hN, B.returns, B.notSynchronized⟩
    have hBX : BdX s meth c E (va_A (wzf E 0 M) s.heap.size) := ⟨hX, hT, hZ, hno⟩
    have hAA : ∀ q, s.heap.size ≤ q → va_A (wzf E 0 M) s.heap.size q := fun q z => Or.inr z
    have hDD : va_D (va_A (wzf E 0 M) s.heap.size) (wzf E 0 M) := (va_D_of (A := fun _ => True) hinj (fun _ _ => trivial)).self
    have key : Wst p l e (rmx (d + 1)) s m (av.map (trV E.2.2.2.2)).toArray below meth c 0 0 (vx_MQ below (fun _ _ _ _ => False) (XCx E x M' (va_A (wzf E 0 M) s.heap.size)) (av.map (trV E.2.2.2.2)).toArray s 1 6 (va_A (wzf E 0 M) s.heap.size)) k M.length E (va_A (wzf E 0 M) s.heap.size) s.heap 0 (entL (mL k) av) [] M := by
      refine hgo (fun pc L S N => Wst p l e (rmx (d + 1)) s m (av.map (trV E.2.2.2.2)).toArray below meth c 0 0 (vx_MQ below (fun _ _ _ _ => False) (XCx E x M' (va_A (wzf E 0 M) s.heap.size)) (av.map (trV E.2.2.2.2)).toArray s 1 6 (va_A (wzf E 0 M) s.heap.size)) k M.length E (va_A (wzf E 0 M) s.heap.size) s.heap pc L S N) ?_
      intro pc L S N hwI
      rcases fnd_chk (mP k) pss 0 pc f6 with hn | ⟨pss', hc⟩
      · rw [hn] at hwI; exact False.elim hwI
      · exact sx_chain hDL (snd l hDL E d) ih hB hBX hkM hfl hinj hAA (fun _ _ _ _ z => z) _ pss' pc L S N (fun x hx => fnd_sub _ _ _ hx) hc hwI
    rw [lg_entry_eq]
    have hl := lv_entry (av.map (trV E.2.2.2.2)) (n := mL k) (by rw [csum_lg]; exact hcs)
    exact key _ _ _ (lv_mono hl (entL_sub E.2.2.2.2 av (mL k) 0)) hw hDD va_S.rf rfl
