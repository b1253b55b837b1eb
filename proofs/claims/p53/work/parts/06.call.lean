/-! calls, returns, a method; then every run of the interpreter is a contract of the machine -/
def rmd (d : Nat) : Room := { frames := d, cells := 0, slots := 0, locals := 60 * d }
def PreM (E : Env4) (av : List Value) (M : Mem) (sz : Nat) : Array Value → State → Prop := va_Pc (av.map (trV E.2.2.2.2)) (fun U => U.heap.size = sz ∧ va_P E.1 vwCl (wzf E 0 M) U.heap ∧ va_K E.1 vwCl (tysE E) U ∧ ∀ w ∈ nwords, va_Nw w U)
def PostM (E : Env4) (v : Option Value) (M' : Mem) (A : Nat → Prop) : Array Value → State → Outcome → State → Prop := fun _ st oc t => (oc = .returned (v.map (trV E.2.2.2.2)) ∧ va_P E.1 vwCl (wzf E 0 M') t.heap) ∧ va_F A st t
def injE (E : Env4) (n : Nat) : Prop := ∀ i j, i < n → j < n → E.2.2.2.2 i = E.2.2.2.2 j → i = j
def yDL : MethodName := ⟨"java/lang/Double", "doubleToLongBits", "(D)J"⟩
def CDL (_l : Launch) : Prop := True
/-- this script's class has no doubleToLongBits -/
theorem no_dl : ¬ (Jvm.Cond.static yDL) ∈ TT := fun h => by
  have h1 := (List.mem_filter.mp h).1
  have h2 : (lw_tbl.any fun w => decide (w = Jvm.Cond.static yDL)) = false := by decide +kernel
  have h3 : (lw_tbl.any fun w => decide (w = Jvm.Cond.static yDL)) = true := List.any_eq_true.mpr ⟨_, h1, decide_eq_true rfl⟩
  rw [h2] at h3; cases h3
theorem nw_warm {s U : State} (hW : s.WarmedH U.vm) (h : ∀ w ∈ nwords, va_Nw w s) : ∀ w ∈ nwords, va_Nw w U := by
  intro w hw
  have h1 := h w hw
  unfold nwords at hw
  simp only [List.mem_cons, List.not_mem_nil, or_false] at hw
  rcases hw with rfl | rfl | rfl | rfl <;> exact va_Nw.warmM hW h1
theorem nw_same {u U : State} (hv : u.vm = U.vm) (h : ∀ w ∈ nwords, va_Nw w u) : ∀ w ∈ nwords, va_Nw w U := by
  intro w hw
  have h1 := h w hw
  unfold nwords at hw
  simp only [List.mem_cons, List.not_mem_nil, or_false] at hw
  rcases hw with rfl | rfl | rfl | rfl <;> exact va_Nw.same rfl hv h1
theorem TT_good {w : Jvm.Cond} (h : w ∈ TT) : w ∈ TT ∧ ((w.onTables && w.keeps) = true ∨ ∃ ty, w = .arrayClass ty) := ⟨h, good_of_word (List.mem_filter.mp h).2⟩
theorem ck_code {k : Nat} (h : k < nM) : Cond.code (mY k) (mB k) (mL k) (mR k) ∈ TT := by
  obtain ⟨cp, pss, hc⟩ := ckM k h
  unfold chM at hc
  simp only [Bool.and_eq_true, decide_eq_true_eq] at hc
  exact List.mem_filter.mpr ⟨List.mem_of_getElem? hc.1.1.1.1.1.1.1, rfl⟩
theorem ck_facts {k : Nat} (h : k < nM) : plainName (mY k).cls = true ∧ (mY k).cls ≠ "java/lang/invoke/MethodHandle" ∧ (mY k).cls ≠ "java/lang/invoke/VarHandle" ∧ (parseMethodDescriptor (mY k).desc).map (fun d => d.parameters.length) = some (mN k) ∧ mL k ≤ 30 ∧ ∃ pss, chE k (mP k) pss 0 = true := by
  obtain ⟨cp, pss, hc⟩ := ckM k h
  unfold chM at hc
  simp only [Bool.and_eq_true, decide_eq_true_eq] at hc
  obtain ⟨⟨⟨⟨⟨⟨⟨h1, h2⟩, h3⟩, h4⟩, h5⟩, h6⟩, h7⟩, h8⟩ := hc
  exact ⟨h2, h3, h4, h5, h7, pss, h8⟩
theorem wsk_good {k : Nat} (h : k < nM) : ∀ w ∈ wsk k, w ∈ TT ∧ ((w.onTables && w.keeps) = true ∨ ∃ ty, w = .arrayClass ty) := by
  intro w hw
  rcases List.mem_cons.mp hw with h1 | h1
  · rw [h1]; exact TT_good (ck_code h)
  · exact TT_good h1
theorem fnd_chk {k : Nat} : ∀ (p : List En) (pss : List (List Nat)) (q pc : Nat), chE k p pss q = true → fnd p pc = [] ∨ ∃ pss', chE k (fnd p pc) pss' pc = true := by
  intro p
  induction p with
  | nil => intro pss q pc _; exact Or.inl rfl
  | cons x r ih =>
    intro pss q pc h
    obtain ⟨pc', i, len, a⟩ := x
    have hh := h
    unfold chE at h
    cases hm : (pc' == pc && nnop i) with
    | true =>
      right
      refine ⟨pss, ?_⟩
      have e1 : fnd ((pc', i, len, a) :: r) pc = (pc', i, len, a) :: r := by
        show (bif pc' == pc && nnop i then _ else _) = _
        rw [hm]; rfl
      rw [Bool.and_eq_true] at hm
      have e2 := eq_of_beq hm.1
      split at h
      · rw [Bool.and_eq_true] at h
        have e3 := of_decide_eq_true h.1
        rw [e3] at hm
        cases hm.2
      · simp only [Bool.and_eq_true, decide_eq_true_eq] at h
        have e4 : pc = q := by rw [← e2]; exact h.1.1.1.1
        rw [e1, e4]; exact hh
    | false =>
      have e1 : fnd ((pc', i, len, a) :: r) pc = fnd r pc := by
        show (bif pc' == pc && nnop i then _ else _) = _
        rw [hm]; rfl
      rw [e1]
      split at h
      · rw [Bool.and_eq_true] at h
        exact ih _ _ pc h.2
      · rw [Bool.and_eq_true] at h
        exact ih _ _ pc h.2
section CALL
variable {p : Program} {l : Launch} {e : Jvm.Env} {R : Room} {s : State} {m : MethodId} {args : Array Value} {below : List Frame} {meth : Method} {c : Code} {cells slots : Nat} {Q : State → Prop} {k n0 : Nat} {E : Env4} {A : Nat → Prop} {H0 H : Heap} {locs : List Loc}
theorem wcall {pc : Nat} {ls : Array Slot} {rest st0 : List Value} {A1 : Nat → Prop} {free : Addr → Prop} {Qa : State → Outcome → State → Prop} {v : Option Value} {M1 : Mem} (hr : va_Run p l e R s m args below meth c H locs cells slots 0 0 (F0 m pc ls st0) rest Qa free)
    (hQ : ∀ (st t : State) (o : Outcome), st.heap = H → Qa st o t → (o = .returned (v.map (trV E.2.2.2.2)) ∧ va_P E.1 vwCl (wzf E 0 M1) t.heap) ∧ va_F A1 st t)
    (hS : va_S A H0 H locs) (hA : ∀ q, q < H.size → A1 q → A q) (hf : ∀ q, free q → A q)
    (kk : ∀ (H1 : Heap) (locs1 : List Loc), va_P E.1 vwCl (wzf E 0 M1) H1 → va_S A H0 H1 locs1 → W p l e R s m args below meth c H1 locs1 cells slots Q (F0 m (pc + 3) ls ((v.map (trV E.2.2.2.2)).toList ++ rest))) : W p l e R s m args below meth c H locs cells slots Q (F0 m pc ls st0) := by
  intro T hT X
  obtain ⟨v', st₀, t, T', L, h0, X', hL, e1, e2, hq, st⟩ := hr T hT X
  obtain ⟨⟨hv, hp⟩, hz, hk⟩ := hQ st₀ t _ h0 hq
  cases hv
  rw [h0] at hz hk
  obtain ⟨t2, a1, b1⟩ := kk T'.heap (locs ++ L) (by rw [e1]; exact hp)
    ⟨Nat.le_trans hS.1 (by rw [e1]; exact hz), fun q h1 h2 => by rw [e1, hk q (Nat.lt_of_lt_of_le h1 hS.1) (fun z => h2 (hA q (Nat.lt_of_lt_of_le h1 hS.1) z))]; exact hS.2.1 q h1 h2, fun q hq => by
      rcases List.mem_append.mp hq with h | h
      · exact hS.2.2 q h
      · exact hf _ (hL q h)⟩ T' rfl X'
  exact ⟨t2, st t2 a1, b1⟩
theorem preM_blind {av : List Value} {M : Mem} {sz : Nat} : FrameBlind (PreM E av M sz) := by
  intro a U g mk h
  obtain ⟨q0, q1, qP, qK, qN⟩ := h
  exact ⟨q0, q1, qP, va_K.moved (u := U) (U := U.calling g mk a) (Vm.Alike.refl U.vm) qK, nw_same (u := U) (U := U.calling g mk a) rfl qN⟩
theorem preM_at (B : Bd p s m args meth c k E) {av : List Value} {M : Mem} (hw : va_P E.1 vwCl (wzf E 0 M) H) : ∀ U : State, U.heap = H → s.WarmedH U.vm → PreM E av M H.size (av.map (trV E.2.2.2.2)).toArray U := by
  intro U hU hW
  obtain ⟨-, -, -, -, -, hK, hN, -, -⟩ := B
  exact ⟨rfl, by rw [hU], by rw [hU]; exact hw, va_K.moved hW.alike hK, nw_warm hW hN⟩
theorem post_of {v : Option Value} {M1 : Mem} {A1 : Nat → Prop} {av : Array Value} (st t : State) (o : Outcome) (_ : st.heap = H) (h : PostM E v M1 A1 av st o t) : (o = .returned (v.map (trV E.2.2.2.2)) ∧ va_P E.1 vwCl (wzf E 0 M1) t.heap) ∧ va_F A1 st t := h
theorem toL_map (as : Nat → Nat) (v : Option Value) (r : List Value) : (v.map (trV as)).toList ++ r.map (trV as) = (v.toList ++ r).map (trV as) := by
  cases v <;> rfl
theorem va_D_of {A : Nat → Prop} {M : Mem} (hi : injE E M.length) (hA : ∀ i, i < M.length → A (E.2.2.2.2 i)) : va_D A (wzf E 0 M) := by
  refine ⟨fun i j x y hx hy hxy => ?_, fun j y hy => ?_⟩
  · obtain ⟨a1, a2⟩ := wzf_inv E M 0 i x hx
    obtain ⟨b1, b2⟩ := wzf_inv E M 0 j y hy
    rw [Nat.zero_add] at a2 b2
    exact hi i j a1 b1 (by rw [← a2, ← b2]; exact hxy)
  · obtain ⟨b1, b2⟩ := wzf_inv E M 0 j y hy
    rw [Nat.zero_add] at b2
    rw [b2]; exact hA j b1
/-- the callee's cells are the caller's -/
theorem va_A_of {A : Nat → Prop} {M : Mem} (hD : va_D A (wzf E 0 M)) (hA : ∀ q, H0.size ≤ q → A q) (hS : va_S A H0 H locs) : ∀ q, va_A (wzf E 0 M) H.size q → A q := by
  intro q h
  rcases h with ⟨j, x, h⟩ | h
  · exact hD.2 j _ h
  · exact hA q (Nat.le_trans hS.1 h)
def CMet (l : Launch) (d k : Nat) (E : Env4) (av : List Value) (M : Mem) (v : Option Value) (M' : Mem) : Prop :=
  k < nM → ∀ sz, Met l (mY k) (wsk k) (rmd d) (PreM E av M sz) (PostM E v M' (va_A (wzf E 0 M) sz)) 0 0 (va_A (wzf E 0 M) sz)
theorem Cl_len : ∀ {d k : Nat} {av : List Value} {M : Mem} {r : Res} {M' : Mem}, Cl d k av M r M' → M'.length = M.length := by
  intro d k av M r M' h
  cases d with
  | zero => exact False.elim h
  | succ d =>
    rcases h with ⟨-, -, b, -, -, -, h⟩ | ⟨⟨-, -, h⟩, -⟩
    · rw [h]
    · exact h
theorem Cl_k : ∀ {d k : Nat} {av : List Value} {M : Mem} {r : Res} {M' : Mem}, Cl d k av M r M' → ¬ k = 1999 → k < nM := by
  intro d k av M r M' h hk
  cases d with
  | zero => exact False.elim h
  | succ d =>
    rcases h with ⟨h, -⟩ | ⟨⟨h, -⟩, -⟩
    · exact absurd h hk
    · exact h
set_option maxHeartbeats 4000000 in
theorem snd_virt {d : Nat} (hDL : CDL l) (ih : ∀ (k : Nat) (av : List Value) (M : Mem) (v : Option Value) (M' : Mem), Cl d k av M (.inl v) M' → injE E M.length → CMet l d k E av M v M')
    (B : Bd p s m args meth c k E) (hR : R = rmd (d + 1)) (hcs : cells ≤ R.cells ∧ slots ≤ R.slots) (hinj : injE E n0) (hA : ∀ q, H0.size ≤ q → A q) {pc a index : Nat} {ps : List Nat} {ret : Res → Mem → Prop} {P : Nat → Lcs → List Value → Mem → Prop} {K : Lcs → List Value → Mem → Prop} {L : Lcs} {S : List Value} {M : Mem}
    (hdec : decode (mB k) pc = .ok (.invokevirtual index, 3)) (hchk : chV k index a ps = true) (h : sI (Cl d) ret (mR k) P pc a (.invokevirtual index) L S M K) (hret : ∀ x M, ¬ ret (.inr x) M)
    (hk : ∀ (L : Lcs) (S : List Value) (M : Mem), K L S M → Wst p l e R s m args below meth c cells slots Q k n0 E A H0 (pc + 3) L S M) :
    Wst p l e R s m args below meth c cells slots Q k n0 E A H0 pc L S M := by
  intro ls H locs hl hw hD hS hn
  have B0 := B
  obtain ⟨hx, hb, hml, hts, hown, hK, hNw, -, -⟩ := B0
  obtain ⟨b, r, hb1, h⟩ := stA_inv h
  obtain ⟨ci, fs, hm, h⟩ := gtO_inv h
  obtain ⟨h1, h2, h3, h⟩ := bif_inv (b := ci == mC a) h
  have h1 := eq_of_beq h1
  obtain ⟨v, M1, hcl, h⟩ := Or.resolve_right h (fun ⟨x, M1, _, q⟩ => hret x M1 q)
  unfold chV at hchk
  simp only [Bool.and_eq_true, decide_eq_true_eq] at hchk
  obtain ⟨⟨⟨⟨⟨c1, c2⟩, c3⟩, c4⟩, c5⟩, c6⟩ := hchk
  have hM := ih a _ M v M1 hcl (by rw [hn]; exact hinj) c1 H.size
  obtain ⟨f1, f2, f3, f4, f5, -⟩ := ck_facts c1
  obtain ⟨q, hq, hq2⟩ := Option.map_eq_some_iff.mp c6
  have hwd : csum r ≤ 8 := h2
  have hT : GoodIn TT (wsV (mY k).cls index (mY a).cls (mY a) (wsk a)) := by
    intro w hw
    rcases List.mem_append.mp hw with hw | hw
    · simp only [List.mem_cons, List.not_mem_nil, or_false] at hw
      rcases hw with rfl | rfl | rfl | rfl
      · exact TT_good (wd_mem c2)
      · exact TT_good (wd_mem c3)
      · exact TT_good (wd_mem c4)
      · exact TT_good (wd_mem c5)
    · exact wsk_good c1 w hw
  have hmp : (Value.ref b :: (S.take (mN a)).reverse).map (trV E.2.2.2.2) = Value.ref (E.2.2.2.2 b) :: ((S.take (mN a)).reverse.map (trV E.2.2.2.2)) := rfl
  have hst : S.map (trV E.2.2.2.2) = ((S.take (mN a)).reverse.map (trV E.2.2.2.2)).reverse ++ Value.ref (E.2.2.2.2 b) :: r.map (trV E.2.2.2.2) := by
    rw [← List.map_reverse, List.reverse_reverse]
    have e1 : S.take (mN a) ++ S.drop (mN a) = S := List.take_append_drop _ _
    conv => lhs; rw [← e1, hb1]
    rw [List.map_append]; rfl
  have hpre := preM_at B (av := Value.ref b :: (S.take (mN a)).reverse) hw
  rw [hmp] at hpre
  subst hR
  refine wcall (M1 := M1) (v := v) (va_runV (As := (S.take (mN a)).reverse.map (trV E.2.2.2.2)) (rest := r.map (trV E.2.2.2.2)) (n := mN a) (Ts := TT) ⟨hx, hb, hml, hown, hts⟩ hM
    (cwV (mN a) hts hT rfl rfl rfl ⟨rfl, f2, f3, f4⟩ ⟨Nat.le_refl _, by show 8 + (mL a + 11) + 60 * d ≤ 60 * (d + 1); omega⟩) ⟨preM_blind, ?_, hpre⟩ rfl (by rw [List.length_map, List.length_reverse]; exact h3) hl.1 hst (lv_room (by rw [csum_map]; exact hwd)) hdec hcs) post_of hS (fun q _ z => va_A_of hD hA hS q z) (va_A_of hD hA hS) (fun H1 locs1 p1 s1 => ?_)
  · have hm2 : mget M b = some (eO (mC a) fs) := by rw [← h1]; exact hm
    have hrc := va_recv hK hw hq (wz_get (E := E) hm2) (q := q)
    rw [hq2] at hrc
    exact hrc
  · rw [toL_map]
    have hn1 : M1.length = n0 := (Cl_len hcl).trans hn
    exact hk _ _ _ h ls H1 locs1 hl p1 (va_D_of (by rw [hn1]; exact hinj) (fun i hi => by
      have hi2 : i < (wzf E 0 M).length := by rw [wzf_len, hn, ← hn1]; exact hi
      have g := hD.2 i _ (List.getElem?_eq_getElem hi2)
      have g2 := (wzf_inv E M 0 i _ (List.getElem?_eq_getElem hi2)).2
      rw [Nat.zero_add] at g2
      rw [← g2]; exact g)) s1 hn1
theorem mx_code : Cond.code Lib.Math.max.name Lib.Math.max.code 2 (some .int) ∈ TT := List.mem_filter.mpr ⟨List.mem_of_getElem? (i := 726) (by decide +kernel), rfl⟩
theorem aft_D {d k' : Nat} {av : List Value} {v : Option Value} {M M1 : Mem} (hcl : Cl d k' av M (.inl v) M1) (hn : M.length = n0) (hinj : injE E n0) (hD : va_D A (wzf E 0 M)) : va_D A (wzf E 0 M1) ∧ M1.length = n0 := by
  have hn1 : M1.length = n0 := (Cl_len hcl).trans hn
  refine ⟨va_D_of (by rw [hn1]; exact hinj) (fun i hi => ?_), hn1⟩
  have hi2 : i < (wzf E 0 M).length := by rw [wzf_len, hn, ← hn1]; exact hi
  have g := hD.2 i _ (List.getElem?_eq_getElem hi2)
  have g2 := (wzf_inv E M 0 i _ (List.getElem?_eq_getElem hi2)).2
  rw [Nat.zero_add] at g2
  rw [← g2]; exact g
set_option maxHeartbeats 4000000 in
theorem snd_stat {d : Nat} (hDL : CDL l) (ih : ∀ (k : Nat) (av : List Value) (M : Mem) (v : Option Value) (M' : Mem), Cl d k av M (.inl v) M' → injE E M.length → CMet l d k E av M v M')
    (B : Bd p s m args meth c k E) (hR : R = rmd (d + 1)) (hcs : cells ≤ R.cells ∧ slots ≤ R.slots) (hinj : injE E n0) (hA : ∀ q, H0.size ≤ q → A q) {pc a index : Nat} {ps : List Nat} {ret : Res → Mem → Prop} {P : Nat → Lcs → List Value → Mem → Prop} {K : Lcs → List Value → Mem → Prop} {L : Lcs} {S : List Value} {M : Mem}
    (hdec : decode (mB k) pc = .ok (.invokestatic index, 3)) (hchk : chS k index a ps = true) (h : sI (Cl d) ret (mR k) P pc a (.invokestatic index) L S M K) (hret : ∀ x M, ¬ ret (.inr x) M)
    (hk : ∀ (L : Lcs) (S : List Value) (M : Mem), K L S M → Wst p l e R s m args below meth c cells slots Q k n0 E A H0 (pc + 3) L S M) :
    Wst p l e R s m args below meth c cells slots Q k n0 E A H0 pc L S M := by
  intro ls H locs hl hw hD hS hn
  have B0 := B
  obtain ⟨hx, hb, hml, hts, hown, hK, hNw, -, -⟩ := B0
  have h : (bif a == 1999 then stD S (fun x r => csum r ≤ 8 ∧ clr (Cl d) ret 1999 [.double x] M fun v M' => K L (v ++ r) M')
    else bif a == 1998 then mxK S fun x y r => csum r ≤ 8 ∧ K L (.int (if x < y then y else x) :: r) M
    else csum (S.drop (mN (a % 1000))) ≤ 8 ∧ (S.take (mN (a % 1000))).length = mN (a % 1000) ∧ clr (Cl d) ret (a % 1000) (S.take (mN (a % 1000))).reverse M fun v M' => K L (v ++ S.drop (mN (a % 1000))) M') := h
  subst hR
  cases ha : (a == 1999) with
  | true =>
    rw [ha] at h
    have ha := eq_of_beq ha
    subst ha
    obtain ⟨x, r, rfl, hwd, h⟩ := stD_inv h
    obtain ⟨v, M1, hcl, h⟩ := Or.resolve_right h (fun ⟨x, M1, _, q⟩ => hret x M1 q)
    have had := aft_D hcl hn hinj hD
    cases d with
    | zero => exact False.elim hcl
    | succ d =>
      obtain ⟨-, hd2, b, hb1, hb2, hb3, hb4⟩ := Or.resolve_right hcl (fun q => absurd q.1.1 (by decide))
      have hb1 : x = b := by injection hb1 with q; injection q
      subst hb1
      subst hb4
      have hb3 : v = some (.long x.toInt64) := by injection hb3
      subst hb3
      unfold chS at hchk
      rw [if_pos rfl] at hchk
      simp only [Bool.and_eq_true] at hchk
      obtain ⟨⟨c1, c2⟩, c3⟩ := hchk
      exact absurd (wd_mem c2) no_dl
  | false =>
    rw [ha] at h
    have ha9 : ¬ a = 1999 := fun q => by rw [q] at ha; cases ha
    unfold chS at hchk
    rw [if_neg ha9] at hchk
    cases hb8 : (a == 1998) with
    | true =>
      rw [hb8] at h
      have ha := eq_of_beq hb8
      subst ha
      rw [if_pos rfl] at hchk
      simp only [Bool.and_eq_true] at hchk
      obtain ⟨⟨c1, c2⟩, c3⟩ := hchk
      obtain ⟨x, y, r, e0, h⟩ := mxK_inv h
      subst e0
      · exact va_mmax hx hb (hml.trans hl.1.symm) hown (hts _ (wd_mem c1)) (hts _ (wd_mem c2)) (hts _ (wd_mem c3)) (hts _ mx_code) (Nat.le_add_left 1 d) (by
          rw [csum_map]; show csum r + 13 ≤ 60 * (d + 1); have := h.1; omega) hcs.1 hcs.2 hdec (hk _ _ _ h.2 ls H locs hl hw hD hS hn)
    | false =>
    rw [hb8] at h
    have ha8 : ¬ a = 1998 := fun q => by rw [q] at hb8; cases hb8
    rw [if_neg ha8] at hchk
    obtain ⟨hwd, h3, h⟩ := h
    obtain ⟨v, M1, hcl, h⟩ := Or.resolve_right h (fun ⟨x, M1, _, q⟩ => hret x M1 q)
    simp only [Bool.and_eq_true] at hchk
    obtain ⟨⟨c1, c2⟩, c3⟩ := hchk
    have hmp : (S.take (mN (a % 1000))).reverse.map (trV E.2.2.2.2) = (S.take (mN (a % 1000))).reverse.map (trV E.2.2.2.2) := rfl
    have hst : S.map (trV E.2.2.2.2) = ((S.take (mN (a % 1000))).reverse.map (trV E.2.2.2.2)).reverse ++ (S.drop (mN (a % 1000))).map (trV E.2.2.2.2) := by
      rw [← List.map_reverse, List.reverse_reverse, ← List.map_append, List.take_append_drop]
    have hpre := preM_at B (av := (S.take (mN (a % 1000))).reverse) hw
    have had := aft_D hcl hn hinj hD
    unfold chN at c1
    by_cases hlt : a < 1000
    · rw [if_pos hlt] at c1
      simp only [Bool.and_eq_true, decide_eq_true_eq] at c1
      obtain ⟨c1, c4⟩ := c1
      have hmod : a % 1000 = a := Nat.mod_eq_of_lt hlt
      rw [hmod] at h3 h hcl c2 c3 hst hpre hwd
      have hM := ih a _ M v M1 hcl (by rw [hn]; exact hinj) c1 H.size
      obtain ⟨f1, f2, f3, f4, f5, -⟩ := ck_facts c1
      have hT : GoodIn TT (va_wsS (mY k).cls index (mY a) (wsk a)) := by
        intro w hw
        rcases List.mem_append.mp hw with hw | hw
        · simp only [List.mem_cons, List.not_mem_nil, or_false] at hw
          rcases hw with rfl | rfl | rfl
          · exact TT_good (wd_mem c4)
          · exact TT_good (wd_mem c2)
          · exact TT_good (wd_mem c3)
        · exact wsk_good c1 w hw
      refine wcall (M1 := M1) (v := v) (va_runS (As := (S.take (mN a)).reverse.map (trV E.2.2.2.2)) (rest := (S.drop (mN a)).map (trV E.2.2.2.2)) (n := mN a) (Ts := TT) ⟨hx, hb, hml, hown, hts⟩ hM
        (va_cwS (mN a) hts hT rfl rfl rfl ⟨f2, f3, f4⟩ ⟨Nat.le_refl _, by show 8 + (mL a + 11) + 60 * d ≤ 60 * (d + 1); omega⟩) ⟨preM_blind, hpre⟩ rfl (by rw [List.length_map, List.length_reverse]; exact h3) hl.1 hst (lv_room (by rw [csum_map]; exact hwd)) hdec hcs) post_of hS (fun q _ z => va_A_of hD hA hS q z) (va_A_of hD hA hS) (fun H1 locs1 p1 s1 => ?_)
      rw [toL_map]
      exact hk _ _ _ h ls H1 locs1 hl p1 had.1 s1 had.2
    · rw [if_neg hlt] at c1
      simp only [Bool.and_eq_true, decide_eq_true_eq] at c1
      obtain ⟨c1, c4⟩ := c1
      have hnM : nM = 113 := rfl
      have hmod : a % 1000 = a - 1000 := by omega
      rw [hmod] at h3 h hcl c2 c3 hst hpre hwd
      generalize a - 1000 = a' at c1 c4 h3 h hcl c2 c3 hst hpre hwd
      have hM := ih a' _ M v M1 hcl (by rw [hn]; exact hinj) c1 H.size
      obtain ⟨f1, f2, f3, f4, f5, -⟩ := ck_facts c1
      refine wcall (M1 := M1) (v := v) (va_runSN (host := "AlibiDeals") (As := (S.take (mN a')).reverse.map (trV E.2.2.2.2)) (rest := (S.drop (mN a')).map (trV E.2.2.2.2)) (n := mN a') (Ts := TT) ⟨hx, hb, hml, hown, hts⟩ hM
        ⟨va_cnB (mN a') hts (fun w z => wsk_good c1 w z) rfl rfl rfl (hNw _ c4) (hts _ (wd_mem c3)) ⟨f2, f3, f4⟩ ⟨Nat.le_refl _, by show 8 + (mL a' + 11) + 60 * d ≤ 60 * (d + 1); omega⟩, hts _ (wd_mem c2), trivial⟩ ⟨preM_blind, hpre⟩ rfl (by rw [List.length_map, List.length_reverse]; exact h3) hl.1 hst (lv_room (by rw [csum_map]; exact hwd)) hdec hcs) post_of hS (fun q _ z => va_A_of hD hA hS q z) (va_A_of hD hA hS) (fun H1 locs1 p1 s1 => ?_)
      rw [toL_map]
      exact hk _ _ _ h ls H1 locs1 hl p1 had.1 s1 had.2
def isRet : Instr → Bool
  | .ireturn => true | .lreturn => true | .dreturn => true | .areturn => true | .return_ => true | _ => false
set_option maxHeartbeats 4000000 in
theorem snd_ret (B : Bd p s m args meth c k E) {pc a : Nat} {i : Instr} {call : Nat → List Value → Mem → Res → Mem → Prop} {P : Nat → Lcs → List Value → Mem → Prop} {K : Lcs → List Value → Mem → Prop} {L : Lcs} {S : List Value} {M : Mem} {v0 : Option Value} {M0 : Mem}
    (hi : isRet i = true) (hdec : decode (mB k) pc = .ok (i, 1)) (h : sI call (fun r N => r = .inl v0 ∧ N = M0) (mR k) P pc a i L S M K) :
    Wst p l e R s m args below meth c cells slots (MQ below (PostM E v0 M0 A) args s cells slots A) k n0 E A s.heap pc L S M := by
  intro ls H locs hl hw hD hS hn
  obtain ⟨hx, hb, hml, hts, hown, hK, hNw, hr, hlocks⟩ := B
  cases i
  all_goals first
    | exact Bool.noConfusion hi
    | exact absurd hi (by decide)
    | skip
  case ireturn =>
    obtain ⟨x, r, rfl, rfl, ⟨ty, t1, t2⟩, h1, rfl⟩ := stI_inv h
    have h1 : v0 = some (.int x) := by injection h1 with q; exact q.symm
    subst h1
    exact W.zret hx hb (hr.trans t1) t2 (fun t ht hW => ⟨⟨rfl, by rw [ht]; exact hw⟩, hS.F ht⟩) hS.2.2 hdec
  case lreturn =>
    obtain ⟨x, r, rfl, rfl, t1, h1, rfl⟩ := stJ_inv h
    have h1 : v0 = some (.long x) := by injection h1 with q; exact q.symm
    subst h1
    exact W.lret hx hb (hr.trans t1) (fun t ht hW => ⟨⟨rfl, by rw [ht]; exact hw⟩, hS.F ht⟩) hS.2.2 hdec
  case dreturn =>
    obtain ⟨x, r, rfl, rfl, t1, h1, rfl⟩ := stD_inv h
    have h1 : v0 = some (.double x) := by injection h1 with q; exact q.symm
    subst h1
    exact W.dret hx hb (hr.trans t1) (fun t ht hW => ⟨⟨rfl, by rw [ht]; exact hw⟩, hS.F ht⟩) hS.2.2 hdec
  case areturn =>
    obtain ⟨x, r, rfl, rfl, ⟨C, t1⟩, h1, rfl⟩ := stA_inv h
    have h1 : v0 = some (.ref x) := by injection h1 with q; exact q.symm
    subst h1
    exact W.aret hx hb (hr.trans t1) (Or.inl ⟨C, rfl⟩) (Or.inr ⟨_, rfl⟩) (fun t ht hW => ⟨⟨rfl, by rw [ht]; exact hw⟩, hS.F ht⟩) hS.2.2 hdec
  case return_ =>
    obtain ⟨rfl, t1, h1, rfl⟩ := h
    have h1 : v0 = none := by injection h1 with q; exact q.symm
    subst h1
    exact W.vret hx hb (hr.trans t1) (fun t ht hW => ⟨⟨rfl, by rw [ht]; exact hw⟩, hS.F ht⟩) hS.2.2 hdec
theorem class_of (i : Instr) : plain i = true ∨ isRet i = true ∨ (∃ x, i = .invokevirtual x) ∨ (∃ x, i = .invokestatic x) ∨ (∃ x, i = .new x) ∨ i = .nop := by
  cases i
  case invokevirtual x => exact Or.inr (Or.inr (Or.inl ⟨x, rfl⟩))
  case invokestatic x => exact Or.inr (Or.inr (Or.inr (Or.inl ⟨x, rfl⟩)))
  case new x => exact Or.inr (Or.inr (Or.inr (Or.inr (Or.inl ⟨x, rfl⟩))))
  case nop => exact Or.inr (Or.inr (Or.inr (Or.inr (Or.inr rfl))))
  case ireturn => exact Or.inr (Or.inl rfl)
  case lreturn => exact Or.inr (Or.inl rfl)
  case dreturn => exact Or.inr (Or.inl rfl)
  case areturn => exact Or.inr (Or.inl rfl)
  case return_ => exact Or.inr (Or.inl rfl)
  all_goals exact Or.inl rfl
set_option maxHeartbeats 4000000 in
theorem snd_chain {d : Nat} (hDL : CDL l) (ih : ∀ (k : Nat) (av : List Value) (M : Mem) (v : Option Value) (M' : Mem), Cl d k av M (.inl v) M' → injE E M.length → CMet l d k E av M v M')
    (B : Bd p s m args meth c k E) (hR : R = rmd (d + 1)) (hcs : cells ≤ R.cells ∧ slots ≤ R.slots) (hinj : injE E n0) (hA : ∀ q, s.heap.size ≤ q → A q) {P : Nat → Lcs → List Value → Mem → Prop} {v0 : Option Value} {M0 : Mem}
    (hP : ∀ (pc : Nat) (L : Lcs) (S : List Value) (M : Mem), P pc L S M → Wst p l e R s m args below meth c cells slots (MQ below (PostM E v0 M0 A) args s cells slots A) k n0 E A s.heap pc L S M) :
    ∀ (r : List En) (pss : List (List Nat)) (q : Nat) (L : Lcs) (S : List Value) (M : Mem), chE k r pss q = true → wI (Cl d) (fun r N => r = .inl v0 ∧ N = M0) (mR k) P r L S M →
      Wst p l e R s m args below meth c cells slots (MQ below (PostM E v0 M0 A) args s cells slots A) k n0 E A s.heap q L S M := by
  intro r
  induction r with
  | nil => intro pss q L S M _ h; exact False.elim h
  | cons x r ihr =>
    intro pss q L S M hc h
    obtain ⟨pc, i, len, a⟩ := x
    have h : sI (Cl d) (fun r N => r = .inl v0 ∧ N = M0) (mR k) P pc a i L S M (fun L' S' M' => wI (Cl d) (fun r N => r = .inl v0 ∧ N = M0) (mR k) P r L' S' M') := h
    unfold chE at hc
    split at hc
    · rename_i hpc
      rw [Bool.and_eq_true] at hc
      have hi := of_decide_eq_true hc.1
      subst hi
      have h : P (pc - 100000) (mkL a L) S M := h
      rw [hpc, Nat.add_sub_cancel] at h
      intro ls H locs hl
      exact hP _ _ _ _ h ls H locs (lv_mkL hl _)
    · simp only [Bool.and_eq_true, decide_eq_true_eq] at hc
      obtain ⟨⟨⟨⟨e1, e2⟩, e3⟩, e4⟩, e5⟩ := hc
      subst e1
      have hk : ∀ (L : Lcs) (S : List Value) (M : Mem), wI (Cl d) (fun r N => r = .inl v0 ∧ N = M0) (mR k) P r L S M → Wst p l e R s m args below meth c cells slots (MQ below (PostM E v0 M0 A) args s cells slots A) k n0 E A s.heap (pc + len) L S M :=
        fun L S M z => ihr _ _ L S M e5 z
      rcases class_of i with hi | hi | ⟨x, rfl⟩ | ⟨x, rfl⟩ | ⟨x, rfl⟩ | rfl
      · exact snd_plain B hi e2 e3 e4 h hP hk
      · have hl1 : len = 1 := by
          cases i <;> first | exact Bool.noConfusion hi | exact absurd hi (by decide) | exact il_of e3 rfl (by decide)
        subst hl1
        exact snd_ret B hi e2 h
      · have hl1 : len = 3 := il_of e3 rfl (by decide)
        subst hl1
        exact snd_virt hDL ih B hR hcs hinj hA e2 e4 h (fun _ _ z => by cases z.1) hk
      · have hl1 : len = 3 := il_of e3 rfl (by decide)
        subst hl1
        exact snd_stat hDL ih B hR hcs hinj hA e2 e4 h (fun _ _ z => by cases z.1) hk
      · match S, h with
        | [], h => exact absurd h (fun z => by cases (show (Sum.inr a : Res) = .inl v0 ∧ M = M0 from z).1)
      · exact Bool.noConfusion e4
end CALL
set_option maxHeartbeats 4000000 in
/-- every run of the interpreter that returns is a contract of the machine -/
theorem snd (l : Launch) (hDL : CDL l) (E : Env4) : ∀ (d k : Nat) (av : List Value) (M : Mem) (v : Option Value) (M' : Mem), Cl d k av M (.inl v) M' → injE E M.length → CMet l d k E av M v M' := by
  intro d
  induction d with
  | zero => intro k av M v M' h; exact False.elim h
  | succ d ih =>
    intro k av M v M' h hinj hkM sz
    rcases h with ⟨h, -⟩ | ⟨⟨-, hcs, hlen⟩, hgo⟩
    · subst h; exact absurd hkM (by decide)
    obtain ⟨f1, f2, f3, f4, f5, pss, f6⟩ := ck_facts hkM
    refine Met.ofW (cc := mB k) (maxL := mL k) (ret := mR k) f1 rfl ?_
    intro p e s m args below meth c s₁ B hml hv
    obtain ⟨rfl, hsz, hw, hK, hN⟩ := hv
    subst hsz
    have hts := atoms_spec (ws := wsk k) B.pre
    have hB : Bd p s m (av.map (trV E.2.2.2.2)).toArray meth c k E := ⟨B.exec, B.bytes, hml, fun w z => hts w (List.mem_cons_of_mem _ z), findClass_of_methodNamed B.named, hK, hN, B.returns, B.notSynchronized⟩
    have hAA : ∀ q, s.heap.size ≤ q → va_A (wzf E 0 M) s.heap.size q := fun q z => Or.inr z
    have hDD : va_D (va_A (wzf E 0 M) s.heap.size) (wzf E 0 M) := (va_D_of (A := fun _ => True) hinj (fun _ _ => trivial)).self
    have key : Wst p l e (rmd (d + 1)) s m (av.map (trV E.2.2.2.2)).toArray below meth c 0 0 (MQ below (PostM E v M' (va_A (wzf E 0 M) s.heap.size)) (av.map (trV E.2.2.2.2)).toArray s 0 0 (va_A (wzf E 0 M) s.heap.size)) k M.length E (va_A (wzf E 0 M) s.heap.size) s.heap 0 (entL (mL k) av) [] M := by
      refine hgo (fun pc L S N => Wst p l e (rmd (d + 1)) s m (av.map (trV E.2.2.2.2)).toArray below meth c 0 0 (MQ below (PostM E v M' (va_A (wzf E 0 M) s.heap.size)) (av.map (trV E.2.2.2.2)).toArray s 0 0 (va_A (wzf E 0 M) s.heap.size)) k M.length E (va_A (wzf E 0 M) s.heap.size) s.heap pc L S N) ?_
      intro pc L S N hwI
      rcases fnd_chk (mP k) pss 0 pc f6 with hn | ⟨pss', hc⟩
      · rw [hn] at hwI; exact False.elim hwI
      · exact snd_chain hDL (fun k av M v M' z1 z2 => ih k av M v M' z1 z2) hB rfl ⟨Nat.le_refl _, Nat.le_refl _⟩ hinj hAA (fun _ _ _ _ z => z) _ pss' pc L S N hc hwI
    rw [lg_entry_eq]
    have hl := lv_entry (av.map (trV E.2.2.2.2)) (n := mL k) (by rw [csum_lg]; exact hcs)
    exact key _ _ _ (lv_mono hl (entL_sub E.2.2.2.2 av (mL k) 0)) hw hDD va_S.rf rfl
