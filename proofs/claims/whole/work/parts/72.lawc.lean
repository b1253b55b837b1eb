/-! the law's rows: calls, handlers, chains -/
def lclass (i : Instr) : Nat := match i with
  | .invokevirtual _ => 1
  | .invokestatic _ => 2
  | .ireturn => 3
  | _ => 0
def lscr (i : Instr) : Bool := match i with
  | .iaload => true
  | .arraylength => true
  | _ => false
section LCALL
variable {p : Program} {l : Launch} {e : Jvm.Env} {R : Room} {s : State} {m : MethodId} {args : Array Value} {below : List Frame} {meth : Method} {c : Code} {c0 s0 uc n0 ml : Nat} {Q : State → Prop} {E : Env4} {A : Nat → Prop} {H0 H : Heap} {cb : ByteArray} {own : String}
variable {VC : Nat → List Value → Mem → Option Value → Mem → Prop} {XX : Nat → List Value → Mem → Prop} {SC : Nat → List Value → Mem → Int32 → Mem → Prop} {RR : List Value → Mem → Prop} {wn : Nat → Nat} {sn : Nat} {sx : Nat → Int32}
set_option maxHeartbeats 4000000 in
theorem lchain (B : LB p s m args c cb ml own E) {P : Nat → LK} {rows : List En} (hX : (rows.any (fun x => lscr x.2.1)) = true → LX s E A H0 sn sx)
    (hP : ∀ (pc t : Nat) (L : Lcs) (S : List Value) (M : Mem), P pc t L S M → LW p l e R s m args below meth c c0 s0 uc Q ml n0 E A H0 pc t L S M)
    (hV : ∀ (pc index a t : Nat) (ps : List Nat) (L : Lcs) (S : List Value) (M : Mem) (K : LK), decode cb pc = .ok (.invokevirtual index, 3) → lchk ml own pc (.invokevirtual index) a ps = true → (pc, Instr.invokevirtual index, 3, a) ∈ rows → lS VC XX SC RR wn sn sx P pc a (.invokevirtual index) t L S M K → (∀ (t : Nat) (L : Lcs) (S : List Value) (M : Mem), K t L S M → LW p l e R s m args below meth c c0 s0 uc Q ml n0 E A H0 (pc + 3) t L S M) → LW p l e R s m args below meth c c0 s0 uc Q ml n0 E A H0 pc t L S M)
    (hS : ∀ (pc index a t : Nat) (L : Lcs) (S : List Value) (M : Mem) (K : LK), decode cb pc = .ok (.invokestatic index, 3) → (pc, Instr.invokestatic index, 3, a) ∈ rows → lS VC XX SC RR wn sn sx P pc a (.invokestatic index) t L S M K → (∀ (t : Nat) (L : Lcs) (S : List Value) (M : Mem), K t L S M → LW p l e R s m args below meth c c0 s0 uc Q ml n0 E A H0 (pc + 3) t L S M) → LW p l e R s m args below meth c c0 s0 uc Q ml n0 E A H0 pc t L S M)
    (hR : ∀ (pc t : Nat) (L : Lcs) (S : List Value) (M : Mem), decode cb pc = .ok (.ireturn, 1) → t < 601 ∧ RR S M → LW p l e R s m args below meth c c0 s0 uc Q ml n0 E A H0 pc t L S M) :
    ∀ (r : List En) (pss : List (List Nat)) (q t : Nat) (L : Lcs) (S : List Value) (M : Mem), (∀ x ∈ r, x ∈ rows) → chL cb ml own r pss q = true → lW VC XX SC RR wn sn sx P r t L S M → LW p l e R s m args below meth c c0 s0 uc Q ml n0 E A H0 q t L S M := by
  intro r
  induction r with
  | nil => intro pss q t L S M _ _ h; exact False.elim h
  | cons x r ihr =>
    intro pss q t L S M hr hc h
    obtain ⟨pc, i, len, a⟩ := x
    replace h : lS VC XX SC RR wn sn sx P pc a i t L S M (fun t' L' S' M' => lW VC XX SC RR wn sn sx P r t' L' S' M') := h
    unfold chL at hc
    simp only [Bool.and_eq_true, decide_eq_true_eq] at hc
    obtain ⟨⟨⟨⟨e1, e2⟩, e3⟩, e4⟩, e5⟩ := hc
    subst e1
    have hk : ∀ (t : Nat) (L : Lcs) (S : List Value) (M : Mem), lW VC XX SC RR wn sn sx P r t L S M → LW p l e R s m args below meth c c0 s0 uc Q ml n0 E A H0 (pc + len) t L S M :=
      fun t L S M z => ihr _ _ t L S M (fun x hx => hr x (List.mem_cons_of_mem _ hx)) e5 z
    have hmem := hr _ List.mem_cons_self
    by_cases hi : lclass i = 0
    · refine lp B ?_ e2 e3 e4 h ?_ hP hk
      · cases i <;> first | rfl | (exact absurd (show (1 : Nat) = 0 from hi) (by decide)) | (exact absurd (show (2 : Nat) = 0 from hi) (by decide)) | (exact absurd (show (3 : Nat) = 0 from hi) (by decide))
      · intro hz
        refine hX (List.any_eq_true.mpr ⟨_, hmem, ?_⟩)
        rcases hz with rfl | rfl <;> rfl
    · cases i <;> first | (exact absurd rfl hi) | skip
      case invokevirtual x =>
        have hl1 : len = 3 := il_of e3 rfl (by decide)
        subst hl1
        exact hV pc x a t _ L S M _ e2 e4 hmem h hk
      case invokestatic x =>
        have hl1 : len = 3 := il_of e3 rfl (by decide)
        subst hl1
        exact hS pc x a t L S M _ e2 hmem h hk
      case ireturn =>
        have hl1 : len = 1 := il_of e3 rfl (by decide)
        subst hl1
        exact hR pc t L S M e2 h
theorem lpreM (B : LB p s m args c cb ml own E) {av : List Value} {M : Mem} (hw : va_P E.1 vwCl (wzf E 0 M) H) : ∀ U : State, U.heap = H → s.WarmedH U.vm → PreM E av M H.size (av.map (trV E.2.2.2.2)).toArray U := by
  intro U hU hW
  obtain ⟨-, -, -, -, -, hK, hN, -, -⟩ := B
  exact ⟨rfl, by rw [hU], by rw [hU]; exact hw, va_K.moved hW.alike hK, nw_warm hW hN⟩
theorem lpreX (B : LB p s m args c cb ml own E) {locs : List Loc} (hZ : zqU A s H0) (hS : va_S A H0 H locs) {av : List Value} {M : Mem} (hw : va_P E.1 vwCl (wzf E 0 M) H) (hAA : ∀ q, va_A (wzf E 0 M) H.size q → A q) : ∀ U : State, U.heap = H → s.WarmedH U.vm → PreX E av M H.size (av.map (trV E.2.2.2.2)).toArray U := by
  intro U hU hW
  obtain ⟨-, -, -, -, -, hK, hN, hX, hT⟩ := B
  refine ⟨rfl, by rw [hU], by rw [hU]; exact hw, va_K.moved hW.alike hK, nw_warm hW hN, xw_warm hW hX, fun q hq => (hT q hq).imp fun sa h => vk_R.warm hW h, ?_, ?_⟩
  · rw [hU]; exact vx_Zq.moved hW.alike ((hZ.1.kept hS.2.1).narrow hAA)
  · rw [hU]; exact vx_Zq.moved hW.alike ((hZ.2.kept hS.2.1).narrow hAA)
theorem lvGood {a index : Nat} {ps : List Nat} {pc : Nat} (hchk : lchk ml own pc (.invokevirtual index) a ps = true) : a < nM ∧ GoodIn TT (wsV own index (mY a).cls (mY a) (wsk a)) ∧ ∃ q, vwCl[mC a]? = some q ∧ q.1 = (mY a).cls := by
  have hchk : (decide (a < nM) && wd (psn ps 0) (.methodLink own index (mY a)) && wd (psn ps 1) (.instanceMethod (mY a)) && wd (psn ps 2) (.selects (mY a).cls (mY a) (mY a)) && wd (psn ps 3) (.initialized (mY a).cls)
    && decide ((vwCl[mC a]?).map (fun r => r.1) = some (mY a).cls)) = true := hchk
  simp only [Bool.and_eq_true, decide_eq_true_eq] at hchk
  obtain ⟨⟨⟨⟨⟨c1, c2⟩, c3⟩, c4⟩, c5⟩, c6⟩ := hchk
  obtain ⟨q, hq, hq2⟩ := Option.map_eq_some_iff.mp c6
  refine ⟨c1, ?_, q, hq, hq2⟩
  intro w hw
  rcases List.mem_append.mp hw with hw | hw
  · simp only [List.mem_cons, List.not_mem_nil, or_false] at hw
    rcases hw with rfl | rfl | rfl | rfl
    · exact TT_good (wd_mem c2)
    · exact TT_good (wd_mem c3)
    · exact TT_good (wd_mem c4)
    · exact TT_good (wd_mem c5)
  · exact wsk_good c1 w hw
theorem lvStack {a b : Nat} {S r : List Value} (hb1 : S.drop (mN a) = .ref b :: r) : S.map (trV E.2.2.2.2) = ((S.take (mN a)).reverse.map (trV E.2.2.2.2)).reverse ++ Value.ref (E.2.2.2.2 b) :: r.map (trV E.2.2.2.2) := by
  rw [← List.map_reverse, List.reverse_reverse]
  have e1 : S.take (mN a) ++ S.drop (mN a) = S := List.take_append_drop _ _
  conv => lhs; rw [← e1, hb1]
  rw [List.map_append]; rfl
set_option maxHeartbeats 4000000 in
theorem lvirt (B : LB p s m args c cb ml own E) (hDL : CDL l) (hinj : injE E n0) (hA : ∀ q, H0.size ≤ q → A q) {dd : Nat} (hR : dd + 1 ≤ R.frames ∧ 60 * (dd + 1) ≤ R.locals) {t : Nat} (hcs : c0 + uc * t ≤ R.cells ∧ s0 + 6 * (uc * t) ≤ R.slots) {pc a index : Nat} {ps : List Nat} {L : Lcs} {S r : List Value} {M M1 : Mem} {b : Nat} {fs : List Value} {v : Option Value}
    (hdec : decode cb pc = .ok (.invokevirtual index, 3)) (hchk : lchk ml own pc (.invokevirtual index) a ps = true) (hb1 : S.drop (mN a) = .ref b :: r) (hm : mget M b = some (eO (mC a) fs)) (h2 : csum r ≤ 8) (h3 : (S.take (mN a)).length = mN a) (hcl : Cl dd a (.ref b :: (S.take (mN a)).reverse) M (.inl v) M1)
    (hk : LW p l e R s m args below meth c c0 s0 uc Q ml n0 E A H0 (pc + 3) t L (v.toList ++ r) M1) : LW p l e R s m args below meth c c0 s0 uc Q ml n0 E A H0 pc t L S M := by
  intro ls H locs hl hw hD hS hn
  have B0 := B
  obtain ⟨hx, hb, hml, hts, hown, hK, hNw, -, -⟩ := B0
  obtain ⟨c1, hT, q, hq, hq2⟩ := lvGood hchk
  obtain ⟨f1, f2, f3, f4, f5, -⟩ := ck_facts c1
  have hM := snd l hDL E dd a _ M v M1 hcl (by rw [hn]; exact hinj) c1 H.size
  have hmp : (Value.ref b :: (S.take (mN a)).reverse).map (trV E.2.2.2.2) = Value.ref (E.2.2.2.2 b) :: ((S.take (mN a)).reverse.map (trV E.2.2.2.2)) := rfl
  have hpre := lpreM B (av := Value.ref b :: (S.take (mN a)).reverse) hw
  rw [hmp] at hpre
  refine wcall (M1 := M1) (v := v) (va_runV (As := (S.take (mN a)).reverse.map (trV E.2.2.2.2)) (rest := r.map (trV E.2.2.2.2)) (n := mN a) (Ts := TT) ⟨hx, hb, hml, hown, hts⟩ hM
    (cwV (mN a) hts hT rfl rfl rfl ⟨rfl, f2, f3, f4⟩ ⟨hR.1, by show 8 + (mL a + 11) + 60 * dd ≤ R.locals; have := hR.2; omega⟩) ⟨preM_blind, ?_, hpre⟩ rfl (by rw [List.length_map, List.length_reverse]; exact h3) hl.1 (lvStack hb1) (lv_room (by rw [csum_map]; exact h2)) hdec hcs) post_of hS (fun q _ z => va_A_of hD hA hS q z) (va_A_of hD hA hS) (fun H1 locs1 p1 s1 => ?_)
  · have hrc := va_recv hK hw hq (wz_get (E := E) hm) (q := q)
    rw [hq2] at hrc
    exact hrc
  · rw [toL_map]
    have had := aft_D hcl hn hinj hD
    exact hk ls H1 locs1 hl p1 had.1 s1 had.2
end LCALL
