/-! the law's static calls, and its walk, on the machine -/
abbrev Wrw : Type := MethodName × (ByteArray × (Nat × (List (Nat × Nat × Nat × Nat) × (List En × ((Nat → Option Int32) × Nat)))))
def wT : List Wrw := [(yL_exchange, cL_exchange, 5, hhL_exchange, rwL_exchange, cdL_exchange, 4), (yL_noteHas, cL_noteHas, 5, hhL_noteHas, rwL_noteHas, cdL_noteHas, 4), (yL_noteLacks, cL_noteLacks, 5, hhL_noteLacks, rwL_noteLacks, cdL_noteLacks, 4), (yL_noteShows, cL_noteShows, 7, hhL_noteShows, rwL_noteShows, cdL_noteShows, 6), (yL_dropClue, cL_dropClue, 4, hhL_dropClue, rwL_dropClue, cdL_dropClue, 3), (yL_ask, cL_ask, 7, hhL_ask, rwL_ask, cdL_ask, 6), (yL_look, cL_look, 7, hhL_look, rwL_look, cdL_look, 6), (yL_accuse, cL_accuse, 6, hhL_accuse, rwL_accuse, cdL_accuse, 5), (yL_append, cL_append, 4, hhL_append, rwL_append, cdL_append, 3), (yL_work, cL_work, 3, hhL_work, rwL_work, cdL_work, 2), (yL_stoppedPart, cL_stoppedPart, 3, hhL_stoppedPart, rwL_stoppedPart, cdL_stoppedPart, 2), (yL_whyStopped, cL_whyStopped, 3, hhL_whyStopped, rwL_whyStopped, cdL_whyStopped, 2), (yL_undo, cL_undo, 3, hhL_undo, rwL_undo, cdL_undo, 2), (yL_restore, cL_restore, 3, hhL_restore, rwL_restore, cdL_restore, 2), (yL_truePlace, cL_truePlace, 4, hhL_truePlace, rwL_truePlace, cdL_truePlace, 3), (yL_kindOf, cL_kindOf, 4, hhL_kindOf, rwL_kindOf, cdL_kindOf, 3), (yL_playerOf, cL_playerOf, 4, hhL_playerOf, rwL_playerOf, cdL_playerOf, 3), (yL_cardsOf, cL_cardsOf, 4, hhL_cardsOf, rwL_cardsOf, cdL_cardsOf, 3), (yL_isTrue, cL_isTrue, 4, hhL_isTrue, rwL_isTrue, cdL_isTrue, 3), (yL_dealsWith, cL_dealsWith, 5, hhL_dealsWith, rwL_dealsWith, cdL_dealsWith, 4), (yL_mayBe, cL_mayBe, 5, hhL_mayBe, rwL_mayBe, cdL_mayBe, 4), (yL_certainPlace, cL_certainPlace, 4, hhL_certainPlace, rwL_certainPlace, cdL_certainPlace, 3), (yL_mayBeByRules, cL_mayBeByRules, 5, hhL_mayBeByRules, rwL_mayBeByRules, cdL_mayBeByRules, 4), (yL_placeByRules, cL_placeByRules, 4, hhL_placeByRules, rwL_placeByRules, cdL_placeByRules, 3), (yL_envelopeDeals, cL_envelopeDeals, 4, hhL_envelopeDeals, rwL_envelopeDeals, cdL_envelopeDeals, 3), (yL_bestAccusation, cL_bestAccusation, 3, hhL_bestAccusation, rwL_bestAccusation, cdL_bestAccusation, 2), (yL_dealsIfPassed, cL_dealsIfPassed, 5, hhL_dealsIfPassed, rwL_dealsIfPassed, cdL_dealsIfPassed, 4), (yL_leftBy, cL_leftBy, 5, hhL_leftBy, rwL_leftBy, cdL_leftBy, 4), (yL_bestQuestion, cL_bestQuestion, 4, hhL_bestQuestion, rwL_bestQuestion, cdL_bestQuestion, 3), (yL_dealsWithout, cL_dealsWithout, 4, hhL_dealsWithout, rwL_dealsWithout, cdL_dealsWithout, 3)]
def wOKr (q : Wrw) : Prop := WOK q.1 q.2.1 q.2.2.1 q.2.2.2.1 q.2.2.2.2.1 q.2.2.2.2.2.1 ∧ (parseMethodDescriptor q.1.desc).map (fun d => d.parameters.length) = some q.2.2.2.2.2.2 ∧ q.2.2.1 ≤ 30
theorem wT_ok : ∀ q ∈ wT, wOKr q := List.forall_mem_cons.mpr ⟨⟨wkL_exchange, by decide +kernel, by decide⟩, List.forall_mem_cons.mpr ⟨⟨wkL_noteHas, by decide +kernel, by decide⟩, List.forall_mem_cons.mpr ⟨⟨wkL_noteLacks, by decide +kernel, by decide⟩, List.forall_mem_cons.mpr ⟨⟨wkL_noteShows, by decide +kernel, by decide⟩, List.forall_mem_cons.mpr ⟨⟨wkL_dropClue, by decide +kernel, by decide⟩, List.forall_mem_cons.mpr ⟨⟨wkL_ask, by decide +kernel, by decide⟩, List.forall_mem_cons.mpr ⟨⟨wkL_look, by decide +kernel, by decide⟩, List.forall_mem_cons.mpr ⟨⟨wkL_accuse, by decide +kernel, by decide⟩, List.forall_mem_cons.mpr ⟨⟨wkL_append, by decide +kernel, by decide⟩, List.forall_mem_cons.mpr ⟨⟨wkL_work, by decide +kernel, by decide⟩, List.forall_mem_cons.mpr ⟨⟨wkL_stoppedPart, by decide +kernel, by decide⟩, List.forall_mem_cons.mpr ⟨⟨wkL_whyStopped, by decide +kernel, by decide⟩, List.forall_mem_cons.mpr ⟨⟨wkL_undo, by decide +kernel, by decide⟩, List.forall_mem_cons.mpr ⟨⟨wkL_restore, by decide +kernel, by decide⟩, List.forall_mem_cons.mpr ⟨⟨wkL_truePlace, by decide +kernel, by decide⟩, List.forall_mem_cons.mpr ⟨⟨wkL_kindOf, by decide +kernel, by decide⟩, List.forall_mem_cons.mpr ⟨⟨wkL_playerOf, by decide +kernel, by decide⟩, List.forall_mem_cons.mpr ⟨⟨wkL_cardsOf, by decide +kernel, by decide⟩, List.forall_mem_cons.mpr ⟨⟨wkL_isTrue, by decide +kernel, by decide⟩, List.forall_mem_cons.mpr ⟨⟨wkL_dealsWith, by decide +kernel, by decide⟩, List.forall_mem_cons.mpr ⟨⟨wkL_mayBe, by decide +kernel, by decide⟩, List.forall_mem_cons.mpr ⟨⟨wkL_certainPlace, by decide +kernel, by decide⟩, List.forall_mem_cons.mpr ⟨⟨wkL_mayBeByRules, by decide +kernel, by decide⟩, List.forall_mem_cons.mpr ⟨⟨wkL_placeByRules, by decide +kernel, by decide⟩, List.forall_mem_cons.mpr ⟨⟨wkL_envelopeDeals, by decide +kernel, by decide⟩, List.forall_mem_cons.mpr ⟨⟨wkL_bestAccusation, by decide +kernel, by decide⟩, List.forall_mem_cons.mpr ⟨⟨wkL_dealsIfPassed, by decide +kernel, by decide⟩, List.forall_mem_cons.mpr ⟨⟨wkL_leftBy, by decide +kernel, by decide⟩, List.forall_mem_cons.mpr ⟨⟨wkL_bestQuestion, by decide +kernel, by decide⟩, List.forall_mem_cons.mpr ⟨⟨wkL_dealsWithout, by decide +kernel, by decide⟩, fun _ h => absurd h List.not_mem_nil⟩⟩⟩⟩⟩⟩⟩⟩⟩⟩⟩⟩⟩⟩⟩⟩⟩⟩⟩⟩⟩⟩⟩⟩⟩⟩⟩⟩⟩⟩
def wn (a : Nat) : Nat := match wT[a]? with
  | some q => q.2.2.2.2.2.2
  | none => 0
def SCw (a : Nat) (av : List Value) (M : Mem) (x : Int32) (M' : Mem) : Prop := ∃ q : Wrw, wT[a]? = some q ∧ WRun 20 q.2.2.2.2.2.1 q.2.2.2.2.1 q.2.2.1 av M x M' ∧ csum av ≤ q.2.2.1 ∧ M'.length = M.length
/-- the law's static rows: entry, number, places of the two words -/
def slT : List (Nat × (Nat × (Nat × Nat))) := [(117, (0, (797, 798))), (126, (1, (815, 816))), (129, (2, (835, 836))), (132, (3, (842, 843))), (136, (4, (855, 856))), (144, (5, (866, 867))), (147, (6, (882, 883))), (150, (7, (893, 894))), (154, (8, (904, 905))), (165, (9, (929, 930))), (174, (10, (951, 952))), (177, (11, (955, 956))), (180, (12, (959, 960))), (187, (13, (967, 968))), (194, (14, (975, 976))), (205, (15, (979, 980))), (208, (16, (983, 984))), (211, (17, (987, 988))), (214, (18, (991, 992))), (229, (19, (995, 996))), (232, (20, (1006, 1007))), (235, (21, (1013, 1014))), (246, (22, (1020, 1021))), (249, (23, (1027, 1028))), (260, (24, (1034, 1035))), (267, (25, (1045, 1046))), (274, (26, (1056, 1057))), (277, (27, (1064, 1065))), (280, (28, (1071, 1072))), (283, (29, (1078, 1079)))]
def slC (q : Nat × (Nat × (Nat × Nat))) : Bool := match wT[q.2.1]? with
  | some w => wd q.2.2.1 (.methodLink "AlibiDealsLaw" q.1 w.1) && wd q.2.2.2 (.static w.1)
  | none => false
set_option maxRecDepth 100000 in
theorem slT_ok : slT.all slC = true := by decide +kernel
theorem law_init : Cond.initialized "AlibiDealsLaw" ∈ TT := List.mem_filter.mpr ⟨List.mem_of_getElem? (i := 96) (by decide +kernel), rfl⟩
def slR (e : En) : Bool := match e.2.1 with
  | .invokestatic ix => slT.any (fun q => q.1 == ix && q.2.1 == e.2.2.2)
  | _ => true
theorem slR_ok {pc ix len a : Nat} (h : slR (pc, Instr.invokestatic ix, len, a) = true) : ∃ w p1 p2, wT[a]? = some w ∧ wd p1 (.methodLink "AlibiDealsLaw" ix w.1) = true ∧ wd p2 (.static w.1) = true := by
  obtain ⟨q, hq, h2⟩ := List.any_eq_true.mp h
  rw [Bool.and_eq_true] at h2
  have e1 : q.1 = ix := eq_of_beq h2.1
  have e2 : q.2.1 = a := eq_of_beq h2.2
  have h3 := List.all_eq_true.mp slT_ok q hq
  unfold slC at h3
  rw [e1, e2] at h3
  cases hw : wT[a]? with
  | none => rw [hw] at h3; cases h3
  | some w =>
    rw [hw] at h3
    have h3 : (wd q.2.2.1 (.methodLink "AlibiDealsLaw" ix w.1) && wd q.2.2.2 (.static w.1)) = true := h3
    rw [Bool.and_eq_true] at h3
    exact ⟨w, _, _, rfl, h3.1, h3.2⟩
section LST
variable {p : Program} {l : Launch} {e : Jvm.Env} {R : Room} {s : State} {m : MethodId} {args : Array Value} {below : List Frame} {meth : Method} {c : Code} {c0 s0 n0 ml : Nat} {Q : State → Prop} {E : Env4} {A : Nat → Prop} {H0 H : Heap} {cb : ByteArray} {locs : List Loc} {cells slots : Nat}
theorem wcall1 {pc : Nat} {ls : Array Slot} {rest st0 : List Value} {A1 : Nat → Prop} {free : Addr → Prop} {Qa : State → Outcome → State → Prop} {v : Option Value} {M1 : Mem} (hr : va_Run p l e R s m args below meth c H locs cells slots 1 6 (F0 m pc ls st0) rest Qa free)
    (hQ : ∀ (st t : State) (o : Outcome), st.heap = H → Qa st o t → (o = .returned (v.map (trV E.2.2.2.2)) ∧ va_P E.1 vwCl (wzf E 0 M1) t.heap) ∧ va_F A1 st t)
    (hS : va_S A H0 H locs) (hA : ∀ q, q < H.size → A1 q → A q) (hf : ∀ q, free q → A q)
    (kk : ∀ (H1 : Heap) (locs1 : List Loc), va_P E.1 vwCl (wzf E 0 M1) H1 → va_S A H0 H1 locs1 → W p l e R s m args below meth c H1 locs1 (cells + 1) (slots + 6) Q (F0 m (pc + 3) ls ((v.map (trV E.2.2.2.2)).toList ++ rest))) : W p l e R s m args below meth c H locs cells slots Q (F0 m pc ls st0) := by
  intro T hT X
  obtain ⟨v', st₀, t, T', L, h0, X', hL, e1, e2, hq, st⟩ := hr T hT X
  obtain ⟨⟨hv, hp⟩, hz, hk⟩ := hQ st₀ t _ h0 hq
  cases hv
  rw [h0] at hz hk
  obtain ⟨t2, a1, b1⟩ := kk T'.heap (locs ++ L) (by rw [e1]; exact hp)
    ⟨Nat.le_trans hS.1 (by rw [e1]; exact hz), fun q h1 h2 => by rw [e1, hk q (Nat.lt_of_lt_of_le h1 hS.1) (fun z => h2 (hA q (Nat.lt_of_lt_of_le h1 hS.1) z))]; exact hS.2.1 q h1 h2, fun q hq => by
      rcases List.mem_append.mp hq with h | h
      · exact hS.2.2 q h
      · exact hf _ (hL q h)⟩ T' rfl X'
  exact ⟨t2, st t2 a1, b1⟩
theorem lpreW (B : LB p s m args c cb ml "AlibiDealsLaw" E) (hZ : zqU A s H0) (hN0 : va_Nc (xN 1) (xN 0) s) (hN2 : va_Nc (xN 1) (xN 2) s) (hS : va_S A H0 H locs) {av : List Value} {M : Mem} (hw : va_P E.1 vwCl (wzf E 0 M) H) (hAA : ∀ q, va_A (wzf E 0 M) H.size q → A q) : ∀ U : State, U.heap = H → s.WarmedH U.vm → PreW E av M H.size (av.map (trV E.2.2.2.2)).toArray U :=
  fun U hU hW => ⟨lpreX B hZ hS hw hAA U hU hW, va_Nc.moved hW.alike hN0, va_Nc.moved hW.alike hN2⟩
theorem preW_blind {av : List Value} {M : Mem} {sz : Nat} : FrameBlind (PreW E av M sz) := by
  intro a U g mk h
  exact ⟨preX_blind a U g mk h.1, va_Nc.moved (u := U) (U := U.calling g mk a) (Vm.Alike.refl U.vm) h.2.1, va_Nc.moved (u := U) (U := U.calling g mk a) (Vm.Alike.refl U.vm) h.2.2⟩
set_option maxHeartbeats 4000000 in
theorem lstat (B : LB p s m args c cb ml "AlibiDealsLaw" E) (hDL : CDL l) (hfl : l.stackTraces = false) (hinj : injE E n0) (hA : ∀ q, H0.size ≤ q → A q) (hZ : zqU A s H0) (hN0 : va_Nc (xN 1) (xN 0) s) (hN2 : va_Nc (xN 1) (xN 2) s) (hR : 40 ≤ R.frames ∧ 2000 ≤ R.locals) {t : Nat} (hcs : c0 + 1 * t + 1 ≤ R.cells ∧ s0 + 6 * (1 * t) + 6 ≤ R.slots) {pc a index len : Nat} {L : Lcs} {S : List Value} {M M1 : Mem} {x : Int32}
    (hdec : decode cb pc = .ok (.invokestatic index, 3)) (hsl : slR (pc, Instr.invokestatic index, len, a) = true) (h2 : csum (S.drop (wn a)) ≤ 8) (h3 : (S.take (wn a)).length = wn a) (hcl : SCw a (S.take (wn a)).reverse M x M1)
    (hk : LW p l e R s m args below meth c c0 s0 1 Q ml n0 E A H0 (pc + 3) (t + 1) L (.int x :: S.drop (wn a)) M1) : LW p l e R s m args below meth c c0 s0 1 Q ml n0 E A H0 pc t L S M := by
  intro ls H locs hl hw hD hS hn
  have B0 := B
  obtain ⟨hx, hb, hml, hts, hown, hK, hNw, -, -⟩ := B0
  obtain ⟨w, p1, p2, hw1, d1, d2⟩ := slR_ok hsl
  obtain ⟨q, hq, hrun, hcs2, hlen⟩ := hcl
  have hqw : q = w := by rw [hw1] at hq; injection hq with z; exact z.symm
  subst hqw
  obtain ⟨hOK, hpar, hml2⟩ := wT_ok q (List.mem_of_getElem? hw1)
  have hwn : wn a = q.2.2.2.2.2.2 := by unfold wn; rw [hw1]
  have hM := wsnd hDL hfl (E := E) hOK hrun hcs2 (by rw [hn]; exact hinj) H.size
  have hpre := lpreW B hZ hN0 hN2 hS (av := (S.take (wn a)).reverse) hw (va_A_of hD hA hS)
  have hyc : q.1.cls = "AlibiDealsLaw" := hOK.2.1
  have hT : GoodIn TT (va_wsS "AlibiDealsLaw" index q.1 (Cond.codeWith q.1 q.2.1 q.2.2.1 (some .int) q.2.2.2.1 :: TT)) := by
    intro w hw
    rcases List.mem_append.mp hw with hw | hw
    · simp only [List.mem_cons, List.not_mem_nil, or_false] at hw
      rcases hw with rfl | rfl | rfl
      · exact TT_good (wd_mem d1)
      · exact TT_good (wd_mem d2)
      · rw [hyc]; exact TT_good law_init
    · rcases List.mem_cons.mp hw with hw | hw
      · rw [hw]; exact TT_good hOK.2.2.1
      · exact TT_good hw
  have hst : S.map (trV E.2.2.2.2) = ((S.take (wn a)).reverse.map (trV E.2.2.2.2)).reverse ++ (S.drop (wn a)).map (trV E.2.2.2.2) := by
    rw [← List.map_reverse, List.reverse_reverse, ← List.map_append, List.take_append_drop]
  refine wcall1 (M1 := M1) (v := some (.int x)) (vx_runSW (As := (S.take (wn a)).reverse.map (trV E.2.2.2.2)) (rest := (S.drop (wn a)).map (trV E.2.2.2.2)) (n := wn a) (Ts := TT) ⟨hx, hb, hml, hown, hts⟩ hM
    (vx_cwSW (wn a) hts hT rfl rfl rfl ⟨by rw [hyc]; decide, by rw [hyc]; decide, by rw [hpar, hwn]⟩ ⟨by show 20 + 12 + 1 ≤ R.frames; omega, by show 8 + (q.2.2.1 + 11) + (60 * 20 + 300) ≤ R.locals; omega⟩) ⟨preW_blind, hpre⟩ rfl (by rw [List.length_map, List.length_reverse]; exact h3) hl.1 hst (lv_room (by rw [csum_map]; exact h2)) hdec ⟨hcs.1, hcs.2⟩) post_of hS (fun q _ z => va_A_of hD hA hS q z) (va_A_of hD hA hS) (fun H1 locs1 p1 s1 => ?_)
  have hn1 : M1.length = n0 := hlen.trans hn
  have hd1 : va_D A (wzf E 0 M1) := va_D_of (by rw [hn1]; exact hinj) (fun i hi => by
    have hi2 : i < (wzf E 0 M).length := by rw [wzf_len, hn, ← hn1]; exact hi
    have g := hD.2 i _ (List.getElem?_eq_getElem hi2)
    have g2 := (wzf_inv E M 0 i _ (List.getElem?_eq_getElem hi2)).2
    rw [Nat.zero_add] at g2
    rw [← g2]; exact g)
  have hfin := hk ls H1 locs1 hl p1 hd1 s1 hn1
  have e1 : c0 + 1 * (t + 1) = c0 + 1 * t + 1 := by omega
  have e2 : s0 + 6 * (1 * (t + 1)) = s0 + 6 * (1 * t) + 6 := by omega
  rw [e1, e2] at hfin
  exact hfin
end LST
/-! the law's walk -/
def fndC : List (Nat × List En) → Nat → List En
  | [], _ => []
  | (hi, r) :: t, pc => bif Nat.ble hi pc then fndC t pc else fnd r pc
def chC (q : Nat × List En) : Prop := (∃ pss q0, chL code 9 "AlibiDealsLaw" q.2 pss q0 = true) ∧ q.2.all slR = true
theorem fndC_of : ∀ (rs : List (Nat × List En)) (pc : Nat), fndC rs pc = [] ∨ ∃ q ∈ rs, fndC rs pc = fnd q.2 pc := by
  intro rs
  induction rs with
  | nil => intro pc; exact Or.inl rfl
  | cons x r ih =>
    intro pc
    obtain ⟨hi, r1⟩ := x
    have e : fndC ((hi, r1) :: r) pc = bif Nat.ble hi pc then fndC r pc else fnd r1 pc := rfl
    cases hb : Nat.ble hi pc with
    | true =>
      rw [e, hb]
      rcases ih pc with h | ⟨q, hq, h⟩
      · exact Or.inl h
      · exact Or.inr ⟨q, List.mem_cons_of_mem _ hq, h⟩
    | false =>
      rw [e, hb]
      exact Or.inr ⟨(hi, r1), List.mem_cons_self, rfl⟩
def LRun (rs : List (Nat × List En)) (sn : Nat) (sx : Nat → Int32) (pc t : Nat) (L : Lcs) (S : List Value) (M : Mem) : Prop :=
  ∀ P : Nat → LK, (∀ pc t L S N, lW (fun a av N v N1 => Cl 20 a av N (.inl v) N1) (fun _ _ _ => False) SCw (fun S _ => S = [.int 1]) wn sn sx P (fndC rs pc) t L S N → P pc t L S N) → P pc t L S M
section LSND
variable {p : Program} {l : Launch} {e : Jvm.Env} {R : Room} {s : State} {m : MethodId} {args : Array Value} {below : List Frame} {meth : Method} {c : Code} {c0 s0 n0 : Nat} {Q : State → Prop} {E : Env4} {A : Nat → Prop} {H0 : Heap}
set_option maxHeartbeats 4000000 in
theorem lsnd (B : LB p s m args c code 9 "AlibiDealsLaw" E) (hDL : CDL l) (hfl : l.stackTraces = false) (hinj : injE E n0) (hA : ∀ q, H0.size ≤ q → A q) (hZ : zqU A s H0) (hN0 : va_Nc (xN 1) (xN 0) s) (hN2 : va_Nc (xN 1) (xN 2) s) (hR : 40 ≤ R.frames ∧ 2000 ≤ R.locals) (hcs : c0 + 601 ≤ R.cells ∧ s0 + 3606 ≤ R.slots)
    {rs : List (Nat × List En)} (hrs : ∀ q ∈ rs, chC q) {sn : Nat} {sx : Nat → Int32} (hX : LX s E A H0 sn sx)
    (hret : ∀ (pc t : Nat) (L : Lcs) (M : Mem), t < 601 → decode code pc = .ok (.ireturn, 1) → LW p l e R s m args below meth c c0 s0 1 Q 9 n0 E A H0 pc t L [.int 1] M)
    {pc t : Nat} {L : Lcs} {S : List Value} {M : Mem} (h : LRun rs sn sx pc t L S M) : LW p l e R s m args below meth c c0 s0 1 Q 9 n0 E A H0 pc t L S M := by
  refine h (fun pc t L S N => LW p l e R s m args below meth c c0 s0 1 Q 9 n0 E A H0 pc t L S N) ?_
  intro pc t L S N hwI
  rcases fndC_of rs pc with hn | ⟨q, hq, hn⟩
  · rw [hn] at hwI; exact False.elim hwI
  · rw [hn] at hwI
    obtain ⟨⟨pss, q0, hch⟩, hsl⟩ := hrs q hq
    rcases fnd_chL q.2 pss q0 pc hch with hn2 | ⟨pss', hc⟩
    · rw [hn2] at hwI; exact False.elim hwI
    · refine lchain B (rows := q.2) (fun _ => hX) (fun _ _ _ _ _ z => z) ?_ ?_ ?_ _ pss' pc t L S N (fun x hx => fnd_sub _ _ _ hx) hc hwI
      · intro pc index a t ps L S N K hdec hchk hmem h hk
        obtain ⟨b, r, hb1, h⟩ := stA_inv h
        obtain ⟨ci, fs, hm, h⟩ := gtO_inv h
        obtain ⟨h1, h0, h2, h3, h5⟩ := bif_inv (b := ci == mC a) h
        have h1 := eq_of_beq h1
        subst h1
        rcases h5 with ⟨v, M1, hcl, hk2⟩ | h5
        · exact lvirt B hDL hinj hA ⟨by omega, by omega⟩ (by omega) hdec hchk hb1 hm h2 h3 hcl (hk _ _ _ _ hk2)
        · exact False.elim h5
      · intro pc index a t L S N K hdec hmem h hk
        obtain ⟨h0, h2, h3, x, M1, hcl, hk2⟩ := h
        exact lstat B hDL hfl hinj hA hZ hN0 hN2 hR (by omega) hdec (List.all_eq_true.mp hsl _ hmem) h2 h3 hcl (hk _ _ _ _ hk2)
      · intro pc t L S N hdec h
        obtain ⟨h0, h⟩ := h
        subst h
        exact hret pc t L N h0 hdec
end LSND
