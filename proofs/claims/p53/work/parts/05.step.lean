/-! one plain instruction of the interpreter, on the machine -/
theorem il_of {i : Instr} {len n : Nat} (h : (ilen i == 0 || ilen i == len) = true) (hn : ilen i = n) (h0 : ¬ n = 0) : len = n := by
  rw [hn, Bool.or_eq_true] at h
  rcases h with h | h
  · exact absurd (eq_of_beq h) h0
  · exact (eq_of_beq h).symm
section STEP
variable {p : Program} {l : Launch} {e : Jvm.Env} {R : Room} {s : State} {m : MethodId} {args : Array Value} {below : List Frame} {meth : Method} {c : Code} {cells slots : Nat} {Q : State → Prop} {k n0 : Nat} {E : Env4} {A : Nat → Prop} {H0 : Heap}
/-- what a method's walk leans on -/
def Bd (p : Program) (s : State) (m : MethodId) (args : Array Value) (meth : Method) (c : Code) (k : Nat) (E : Env4) : Prop :=
  p.tables.exec = Jvm.exec ∧ c.code = mB k ∧ c.maxLocals = mL k ∧ (∀ w ∈ TT, w.before args s = true) ∧ s.vm.findClass (mY k).cls = some m.cls ∧ va_K E.1 vwCl (tysE E) s ∧ (∀ w ∈ nwords, va_Nw w s) ∧ meth.sig.returnType = mR k ∧ meth.locks = false
def Wst (p : Program) (l : Launch) (e : Jvm.Env) (R : Room) (s : State) (m : MethodId) (args : Array Value) (below : List Frame) (meth : Method) (c : Code) (cells slots : Nat) (Q : State → Prop) (k n0 : Nat) (E : Env4) (A : Nat → Prop) (H0 : Heap) (pc : Nat) (L : Lcs) (S : List Value) (M : Mem) : Prop :=
  ∀ (ls : Array Slot) (H : Heap) (locs : List Loc), lv_has ls (mL k) (lcl E.2.2.2.2 0 L) → va_P E.1 vwCl (wzf E 0 M) H → va_D A (wzf E 0 M) → va_S A H0 H locs → M.length = n0 →
    W p l e R s m args below meth c H locs cells slots Q (F0 m pc ls (S.map (trV E.2.2.2.2)))
def plain : Instr → Bool
  | .invokevirtual _ => false | .invokestatic _ => false | .new _ => false | .ireturn => false | .lreturn => false | .dreturn => false | .areturn => false | .return_ => false | .nop => false | _ => true
theorem chF_inv {index a : Nat} {ps : List Nat} {wr : Bool} (h : chF k index a ps wr = true) : ∃ (C : String) (T : u_T) (N : Nat), vwCl[a / 32]? = some (C, T, N) ∧ a % 32 < N ∧ (T (a % 32)).1 = C ∧ Cond.fieldLink (mY k).cls index C (T (a % 32)).2.1 (T (a % 32)).2.2.1 ∈ TT ∧ (wr = true → (T (a % 32)).2.2.2 = false) := by
  unfold chF at h
  split at h
  · cases h
  · rename_i C T N hv
    simp only [Bool.and_eq_true, decide_eq_true_eq, Bool.or_eq_true, Bool.not_eq_true'] at h
    obtain ⟨⟨⟨h1, h2⟩, h3⟩, h4⟩ := h
    refine ⟨C, T, N, hv, h1, h2, wd_mem h3, fun q => ?_⟩
    rcases h4 with h4 | h4
    · rw [q] at h4; cases h4
    · exact h4
set_option maxHeartbeats 4000000 in
theorem snd_plain (B : Bd p s m args meth c k E) {pc len a : Nat} {i : Instr} {ps : List Nat} {call : Nat → List Value → Mem → Res → Mem → Prop} {ret : Res → Mem → Prop} {P : Nat → Lcs → List Value → Mem → Prop} {K : Lcs → List Value → Mem → Prop} {L : Lcs} {S : List Value} {M : Mem}
    (hpl : plain i = true) (hdec : decode (mB k) pc = .ok (i, len)) (hlen : (ilen i == 0 || ilen i == len) = true) (hchk : chI k pc i a ps = true) (h : sI call ret (mR k) P pc a i L S M K)
    (hP : ∀ (pc : Nat) (L : Lcs) (S : List Value) (M : Mem), P pc L S M → Wst p l e R s m args below meth c cells slots Q k n0 E A H0 pc L S M)
    (hk : ∀ (L : Lcs) (S : List Value) (M : Mem), K L S M → Wst p l e R s m args below meth c cells slots Q k n0 E A H0 (pc + len) L S M) :
    Wst p l e R s m args below meth c cells slots Q k n0 E A H0 pc L S M := by
  intro ls H locs hl hw hD hS hn
  obtain ⟨hx, hb, hml, hts, hown, hK, hNw, -, -⟩ := B
  cases i
  all_goals first
    | exact Bool.noConfusion hpl
    | exact absurd hpl (by decide)
    | exact False.elim h
    | skip
  case iconst n =>
    have hl1 : len = 1 := il_of hlen rfl (by decide)
    subst hl1
    have hc := of_decide_eq_true hchk
    exact lv_iconst hx hb hdec hc (hk _ _ _ h ls H locs hl hw hD hS hn)
  case bipush n =>
    have hl1 : len = 2 := il_of hlen rfl (by decide)
    subst hl1
    have hc := of_decide_eq_true hchk
    exact lv_bipush hx hb hdec hc (hk _ _ _ h ls H locs hl hw hD hS hn)
  case sipush n =>
    have hl1 : len = 3 := il_of hlen rfl (by decide)
    subst hl1
    have hc := of_decide_eq_true hchk
    exact lv_sipush hx hb hdec hc (hk _ _ _ h ls H locs hl hw hD hS hn)
  case ldc ix =>
    have hl1 : len = 2 := il_of hlen rfl (by decide)
    subst hl1
    have h : (bif a == 0 then False else K L (.int (Int32.ofNat a) :: S) M) := h
    cases ha : (a == 0) with
    | true => rw [ha] at h; exact h.elim
    | false =>
      rw [ha] at h
      have hc : (decide (a = 0) || wd (psn ps 0) (.constant (mY k).cls ix (Int32.ofNat a))) = true := hchk
      have ha0 : decide (a = 0) = false := decide_eq_false (fun q => by rw [q] at ha; cases ha)
      rw [ha0, Bool.false_or] at hc
      exact lv_ldc hx hb hown (hts _ (wd_mem hc)) hdec (hk _ _ _ h ls H locs hl hw hD hS hn)
  case ldc_w ix =>
    have hl1 : len = 3 := il_of hlen rfl (by decide)
    subst hl1
    have h : (bif a == 0 then False else K L (.int (Int32.ofNat a) :: S) M) := h
    cases ha : (a == 0) with
    | true => rw [ha] at h; exact h.elim
    | false =>
      rw [ha] at h
      have hc : (decide (a = 0) || wd (psn ps 0) (.constant (mY k).cls ix (Int32.ofNat a))) = true := hchk
      have ha0 : decide (a = 0) = false := decide_eq_false (fun q => by rw [q] at ha; cases ha)
      rw [ha0, Bool.false_or] at hc
      exact lv_ldcw hx hb hown (hts _ (wd_mem hc)) hdec (hk _ _ _ h ls H locs hl hw hD hS hn)
  case ldc2_w ix =>
    have hl1 : len = 3 := il_of hlen rfl (by decide)
    subst hl1
    have h : (bif a % 2 == 0 then K L (.long (Int64.ofNat (a / 2)) :: S) M else K L (.double (UInt64.ofNat (a / 2)) :: S) M) := h
    have hc : (if a % 2 = 0 then wd (psn ps 0) (.constantLong (mY k).cls ix (Int64.ofNat (a / 2))) else wd (psn ps 0) (.constantDouble (mY k).cls ix (UInt64.ofNat (a / 2)))) = true := hchk
    cases ha : (a % 2 == 0) with
    | true =>
      rw [ha] at h
      rw [if_pos (eq_of_beq ha)] at hc
      exact lv_ldc2 hx hb hown (hts _ (wd_mem hc)) hdec (hk _ _ _ h ls H locs hl hw hD hS hn)
    | false =>
      rw [ha] at h
      rw [if_neg (fun q => by rw [q] at ha; cases ha)] at hc
      exact lv_ldc2d hx hb hown (hts _ (wd_mem hc)) hdec (hk _ _ _ h ls H locs hl hw hD hS hn)
  case lconst n =>
    have hl1 : len = 1 := il_of hlen rfl (by decide)
    subst hl1
    exact lv_lconst hx hb hdec rfl (hk _ _ _ h ls H locs hl hw hD hS hn)
  case dconst n =>
    have hl1 : len = 1 := il_of hlen rfl (by decide)
    subst hl1
    have h : (bif n.val == 0 then K L (.double FP.dconst0 :: S) M else K L (.double FP.dconst1 :: S) M) := h
    match n with
    | 0 => exact lv_dconst0 hx hb hdec (hk _ _ _ h ls H locs hl hw hD hS hn)
    | 1 => exact lv_dconst1 hx hb hdec (hk _ _ _ h ls H locs hl hw hD hS hn)
  case iload_n n =>
    have hl1 : len = 1 := il_of hlen rfl (by decide)
    subst hl1
    obtain ⟨x, hg, h⟩ := ldI_inv h
    exact lv_iload_n hx hb hdec rfl (lv_get hl hg) (hk _ _ _ h ls H locs hl hw hD hS hn)
  case iload n =>
    have hl1 : len = 2 := il_of hlen rfl (by decide)
    subst hl1
    obtain ⟨x, hg, h⟩ := ldI_inv h
    exact lv_iload hx hb hdec (lv_get hl hg) (hk _ _ _ h ls H locs hl hw hD hS hn)
  case lload_n n =>
    have hl1 : len = 1 := il_of hlen rfl (by decide)
    subst hl1
    obtain ⟨x, hg, h⟩ := ldJ_inv h
    exact lv_lload_n hx hb hdec rfl (lv_get hl hg) (hk _ _ _ h ls H locs hl hw hD hS hn)
  case lload n =>
    have hl1 : len = 2 := il_of hlen rfl (by decide)
    subst hl1
    obtain ⟨x, hg, h⟩ := ldJ_inv h
    exact lv_lload hx hb hdec (lv_get hl hg) (hk _ _ _ h ls H locs hl hw hD hS hn)
  case dload_n n =>
    have hl1 : len = 1 := il_of hlen rfl (by decide)
    subst hl1
    obtain ⟨x, hg, h⟩ := ldD_inv h
    exact lv_dload_n hx hb hdec rfl (lv_get hl hg) (hk _ _ _ h ls H locs hl hw hD hS hn)
  case dload n =>
    have hl1 : len = 2 := il_of hlen rfl (by decide)
    subst hl1
    obtain ⟨x, hg, h⟩ := ldD_inv h
    exact lv_dload hx hb hdec (lv_get hl hg) (hk _ _ _ h ls H locs hl hw hD hS hn)
  case aload_n n =>
    have hl1 : len = 1 := il_of hlen rfl (by decide)
    subst hl1
    obtain ⟨x, hg, h⟩ := ldA_inv h
    exact lv_aload_n hx hb hdec rfl (lv_get hl hg) (hk _ _ _ h ls H locs hl hw hD hS hn)
  case aload n =>
    have hl1 : len = 2 := il_of hlen rfl (by decide)
    subst hl1
    obtain ⟨x, hg, h⟩ := ldA_inv h
    exact lv_aload hx hb hdec (lv_get hl hg) (hk _ _ _ h ls H locs hl hw hD hS hn)
  case istore_n n =>
    have hl1 : len = 1 := il_of hlen rfl (by decide)
    subst hl1
    obtain ⟨x, r, rfl, h⟩ := stI_inv h
    have hc := of_decide_eq_true hchk
    exact lv_istore_n hx hb hdec rfl hl hc rfl (fun ls2 hl2 => hk _ _ _ h ls2 H locs (lv_mono hl2 (stor_sub1)) hw hD hS hn)
  case istore n =>
    have hl1 : len = 2 := il_of hlen rfl (by decide)
    subst hl1
    obtain ⟨x, r, rfl, h⟩ := stI_inv h
    have hc := of_decide_eq_true hchk
    exact lv_istore hx hb hdec hl hc rfl (fun ls2 hl2 => hk _ _ _ h ls2 H locs (lv_mono hl2 (stor_sub1)) hw hD hS hn)
  case lstore_n n =>
    have hl1 : len = 1 := il_of hlen rfl (by decide)
    subst hl1
    obtain ⟨x, r, rfl, h⟩ := stJ_inv h
    have hc := of_decide_eq_true hchk
    exact lv_lstore_n hx hb hdec rfl hl hc rfl (fun ls2 hl2 => hk _ _ _ h ls2 H locs (lv_mono hl2 (stor_sub2 rfl)) hw hD hS hn)
  case lstore n =>
    have hl1 : len = 2 := il_of hlen rfl (by decide)
    subst hl1
    obtain ⟨x, r, rfl, h⟩ := stJ_inv h
    have hc := of_decide_eq_true hchk
    exact lv_lstore hx hb hdec hl hc rfl (fun ls2 hl2 => hk _ _ _ h ls2 H locs (lv_mono hl2 (stor_sub2 rfl)) hw hD hS hn)
  case dstore_n n =>
    have hl1 : len = 1 := il_of hlen rfl (by decide)
    subst hl1
    obtain ⟨x, r, rfl, h⟩ := stD_inv h
    have hc := of_decide_eq_true hchk
    exact lv_dstore_n hx hb hdec rfl hl hc rfl (fun ls2 hl2 => hk _ _ _ h ls2 H locs (lv_mono hl2 (stor_sub2 rfl)) hw hD hS hn)
  case dstore n =>
    have hl1 : len = 2 := il_of hlen rfl (by decide)
    subst hl1
    obtain ⟨x, r, rfl, h⟩ := stD_inv h
    have hc := of_decide_eq_true hchk
    exact lv_dstore hx hb hdec hl hc rfl (fun ls2 hl2 => hk _ _ _ h ls2 H locs (lv_mono hl2 (stor_sub2 rfl)) hw hD hS hn)
  case astore_n n =>
    have hl1 : len = 1 := il_of hlen rfl (by decide)
    subst hl1
    obtain ⟨x, r, rfl, h⟩ := stA_inv h
    have hc := of_decide_eq_true hchk
    exact lv_astore_n hx hb hdec rfl hl hc rfl (fun ls2 hl2 => hk _ _ _ h ls2 H locs (lv_mono hl2 (stor_sub1)) hw hD hS hn)
  case astore n =>
    have hl1 : len = 2 := il_of hlen rfl (by decide)
    subst hl1
    obtain ⟨x, r, rfl, h⟩ := stA_inv h
    have hc := of_decide_eq_true hchk
    exact lv_astore hx hb hdec hl hc rfl (fun ls2 hl2 => hk _ _ _ h ls2 H locs (lv_mono hl2 (stor_sub1)) hw hD hS hn)
  case iinc n z =>
    have hl1 : len = 3 := il_of hlen rfl (by decide)
    subst hl1
    obtain ⟨x, hg, h⟩ := ldI_inv h
    have hc : (decide (n < mL k) && decide (Int32.ofInt z = cst z)) = true := hchk
    rw [Bool.and_eq_true] at hc
    have hc1 := of_decide_eq_true hc.1
    have hc2 := of_decide_eq_true hc.2
    have hm := mem_lcl E.2.2.2.2 L 0 n _ hg
    rw [Nat.zero_add] at hm
    obtain ⟨q, hq⟩ := List.getElem?_of_mem hm
    exact lv_iinc hx hb hdec hl hq (by rw [hc2]) hc1 rfl (fun ls2 hl2 => hk _ _ _ h ls2 H locs (lv_mono hl2 (stor_sub1 (v := .int _))) hw hD hS hn)
  case dup =>
    have hl1 : len = 1 := il_of hlen rfl (by decide)
    subst hl1
    cases S with
    | nil => exact False.elim h
    | cons v r =>
      obtain ⟨h1, h⟩ := bif_inv (b := cat1 v) h
      exact lv_dup hx hb hdec (by rw [trV_cat]; exact cat1_of h1) (hk _ _ _ h ls H locs hl hw hD hS hn)
  case pop =>
    have hl1 : len = 1 := il_of hlen rfl (by decide)
    subst hl1
    cases S with
    | nil => exact False.elim h
    | cons v r =>
      obtain ⟨h1, h⟩ := bif_inv (b := cat1 v) h
      exact lv_pop hx hb hdec (by rw [trV_cat]; exact cat1_of h1) (hk _ _ _ h ls H locs hl hw hD hS hn)
  case dup2 =>
    have hl1 : len = 1 := il_of hlen rfl (by decide)
    subst hl1
    match S, h with
    | [], h => exact False.elim h
    | [_], h => exact False.elim h
    | v :: w :: r, h =>
      obtain ⟨h1, h⟩ := bif_inv (b := cat1 v && cat1 w) h
      rw [Bool.and_eq_true] at h1
      exact lv_dup2_11 hx hb hdec (by rw [trV_cat]; exact cat1_of h1.1) (by rw [trV_cat]; exact cat1_of h1.2) (hk _ _ _ h ls H locs hl hw hD hS hn)
  case iadd =>
    have hl1 : len = 1 := il_of hlen rfl (by decide)
    subst hl1
    obtain ⟨x, y, r, rfl, h⟩ := o2_inv (K := fun S' => K L S' M) h
    exact lv_iadd hx hb hdec (hk _ _ _ h ls H locs hl hw hD hS hn)
  case isub =>
    have hl1 : len = 1 := il_of hlen rfl (by decide)
    subst hl1
    obtain ⟨x, y, r, rfl, h⟩ := o2_inv (K := fun S' => K L S' M) h
    exact lv_isub hx hb hdec (hk _ _ _ h ls H locs hl hw hD hS hn)
  case imul =>
    have hl1 : len = 1 := il_of hlen rfl (by decide)
    subst hl1
    obtain ⟨x, y, r, rfl, h⟩ := o2_inv (K := fun S' => K L S' M) h
    exact lv_imul hx hb hdec (hk _ _ _ h ls H locs hl hw hD hS hn)
  case iand =>
    have hl1 : len = 1 := il_of hlen rfl (by decide)
    subst hl1
    obtain ⟨x, y, r, rfl, h⟩ := o2_inv (K := fun S' => K L S' M) h
    exact lv_iand hx hb hdec (hk _ _ _ h ls H locs hl hw hD hS hn)
  case ior =>
    have hl1 : len = 1 := il_of hlen rfl (by decide)
    subst hl1
    obtain ⟨x, y, r, rfl, h⟩ := o2_inv (K := fun S' => K L S' M) h
    exact lv_ior hx hb hdec (hk _ _ _ h ls H locs hl hw hD hS hn)
  case ixor =>
    have hl1 : len = 1 := il_of hlen rfl (by decide)
    subst hl1
    obtain ⟨x, y, r, rfl, h⟩ := o2_inv (K := fun S' => K L S' M) h
    exact lv_ixor hx hb hdec (hk _ _ _ h ls H locs hl hw hD hS hn)
  case ishl =>
    have hl1 : len = 1 := il_of hlen rfl (by decide)
    subst hl1
    obtain ⟨x, y, r, rfl, h⟩ := o2_inv (K := fun S' => K L S' M) h
    exact lv_ishl hx hb hdec (hk _ _ _ h ls H locs hl hw hD hS hn)
  case ishr =>
    have hl1 : len = 1 := il_of hlen rfl (by decide)
    subst hl1
    obtain ⟨x, y, r, rfl, h⟩ := o2_inv (K := fun S' => K L S' M) h
    exact lv_ishr hx hb hdec (hk _ _ _ h ls H locs hl hw hD hS hn)
  case iushr =>
    have hl1 : len = 1 := il_of hlen rfl (by decide)
    subst hl1
    obtain ⟨x, y, r, rfl, h⟩ := o2_inv (K := fun S' => K L S' M) h
    exact lv_iushr hx hb hdec rfl (hk _ _ _ h ls H locs hl hw hD hS hn)
  case idiv =>
    have hl1 : len = 1 := il_of hlen rfl (by decide)
    subst hl1
    obtain ⟨x, y, r, rfl, h0, h⟩ := d2_inv (K := fun S' => K L S' M) h
    exact lv_idiv hx hb hdec h0 (hk _ _ _ h ls H locs hl hw hD hS hn)
  case irem =>
    have hl1 : len = 1 := il_of hlen rfl (by decide)
    subst hl1
    obtain ⟨x, y, r, rfl, h0, h⟩ := d2_inv (K := fun S' => K L S' M) h
    exact lv_irem hx hb hdec h0 (hk _ _ _ h ls H locs hl hw hD hS hn)
  case ladd =>
    have hl1 : len = 1 := il_of hlen rfl (by decide)
    subst hl1
    obtain ⟨x, y, r, rfl, h⟩ := l2_inv (K := fun S' => K L S' M) h
    exact lv_ladd hx hb hdec (hk _ _ _ h ls H locs hl hw hD hS hn)
  case lsub =>
    have hl1 : len = 1 := il_of hlen rfl (by decide)
    subst hl1
    obtain ⟨x, y, r, rfl, h⟩ := l2_inv (K := fun S' => K L S' M) h
    exact lv_lsub hx hb hdec (hk _ _ _ h ls H locs hl hw hD hS hn)
  case lmul =>
    have hl1 : len = 1 := il_of hlen rfl (by decide)
    subst hl1
    obtain ⟨x, y, r, rfl, h⟩ := l2_inv (K := fun S' => K L S' M) h
    exact lv_lmul hx hb hdec (hk _ _ _ h ls H locs hl hw hD hS hn)
  case lor =>
    have hl1 : len = 1 := il_of hlen rfl (by decide)
    subst hl1
    obtain ⟨x, y, r, rfl, h⟩ := l2_inv (K := fun S' => K L S' M) h
    exact lv_lor hx hb hdec (hk _ _ _ h ls H locs hl hw hD hS hn)
  case lshl =>
    have hl1 : len = 1 := il_of hlen rfl (by decide)
    subst hl1
    obtain ⟨y, r, rfl, h⟩ := stI_inv h
    obtain ⟨x, r, rfl, h⟩ := stJ_inv h
    exact lv_lshl hx hb hdec rfl (hk _ _ _ h ls H locs hl hw hD hS hn)
  case ddiv =>
    have hl1 : len = 1 := il_of hlen rfl (by decide)
    subst hl1
    obtain ⟨x, y, r, rfl, h0, h⟩ := f2_inv (K := fun S' => K L S' M) h
    exact lv_ddiv hx hb hdec h0 (hk _ _ _ h ls H locs hl hw hD hS hn)
  case dmul =>
    have hl1 : len = 1 := il_of hlen rfl (by decide)
    subst hl1
    obtain ⟨x, y, r, rfl, h0, h⟩ := f2_inv (K := fun S' => K L S' M) h
    exact lv_dmul hx hb hdec h0 (hk _ _ _ h ls H locs hl hw hD hS hn)
  case dsub =>
    have hl1 : len = 1 := il_of hlen rfl (by decide)
    subst hl1
    obtain ⟨x, y, r, rfl, h0, h⟩ := f2_inv (K := fun S' => K L S' M) h
    exact lv_dsub hx hb hdec h0 (hk _ _ _ h ls H locs hl hw hD hS hn)
  case i2l =>
    have hl1 : len = 1 := il_of hlen rfl (by decide)
    subst hl1
    obtain ⟨x, r, rfl, h⟩ := stI_inv h
    exact lv_i2l hx hb hdec rfl (hk _ _ _ h ls H locs hl hw hD hS hn)
  case i2d =>
    have hl1 : len = 1 := il_of hlen rfl (by decide)
    subst hl1
    obtain ⟨x, r, rfl, h⟩ := stI_inv h
    exact lv_i2d hx hb hdec (hk _ _ _ h ls H locs hl hw hD hS hn)
  case d2l =>
    have hl1 : len = 1 := il_of hlen rfl (by decide)
    subst hl1
    obtain ⟨x, r, rfl, h⟩ := stD_inv h
    exact lv_d2l hx hb hdec (hk _ _ _ h ls H locs hl hw hD hS hn)
  case dcmp op =>
    have hl1 : len = 1 := il_of hlen rfl (by decide)
    subst hl1
    obtain ⟨y, r, rfl, h⟩ := stD_inv h
    obtain ⟨x, r, rfl, h⟩ := stD_inv h
    exact lv_dcmp hx hb hdec (hk _ _ _ h ls H locs hl hw hD hS hn)
  case lcmp =>
    have hl1 : len = 1 := il_of hlen rfl (by decide)
    subst hl1
    obtain ⟨y, r, rfl, h⟩ := stJ_inv h
    obtain ⟨x, r, rfl, h⟩ := stJ_inv h
    exact W.lcmp hx hb hdec (hk _ _ _ h ls H locs hl hw hD hS hn)
  case ifCond cc off =>
    have hl1 : len = 3 := il_of hlen rfl (by decide)
    subst hl1
    obtain ⟨x, r, rfl, h⟩ := stI_inv h
    have ht := of_decide_eq_true hchk
    cases cc with
    | eq => exact lv_if_eq hx hb hdec ht (fun z => hP _ _ _ _ (h.1 z) ls H locs (lv_mkL hl _) hw hD hS hn) (fun z => hk _ _ _ (h.2 z) ls H locs hl hw hD hS hn)
    | ne => exact lv_if_ne hx hb hdec ht (fun z => hP _ _ _ _ (h.1 z) ls H locs (lv_mkL hl _) hw hD hS hn) (fun z => hk _ _ _ (h.2 (fun q => q z)) ls H locs hl hw hD hS hn)
    | lt => exact lv_if_lt hx hb hdec ht (fun z => hP _ _ _ _ (h.1 z) ls H locs (lv_mkL hl _) hw hD hS hn) (fun z => hk _ _ _ (h.2 z) ls H locs hl hw hD hS hn)
    | ge => exact lv_if_ge hx hb hdec ht (fun z => hP _ _ _ _ (h.1 z) ls H locs (lv_mkL hl _) hw hD hS hn) (fun z => hk _ _ _ (h.2 z) ls H locs hl hw hD hS hn)
    | gt => exact lv_if_gt hx hb hdec ht (fun z => hP _ _ _ _ (h.1 z) ls H locs (lv_mkL hl _) hw hD hS hn) (fun z => hk _ _ _ (h.2 z) ls H locs hl hw hD hS hn)
    | le => exact lv_if_le hx hb hdec ht (fun z => hP _ _ _ _ (h.1 z) ls H locs (lv_mkL hl _) hw hD hS hn) (fun z => hk _ _ _ (h.2 z) ls H locs hl hw hD hS hn)
  case if_icmp cc off =>
    have hl1 : len = 3 := il_of hlen rfl (by decide)
    subst hl1
    obtain ⟨y, r, rfl, h⟩ := stI_inv h
    obtain ⟨x, r, rfl, h⟩ := stI_inv h
    have ht := of_decide_eq_true hchk
    cases cc with
    | eq => exact lv_icmp_eq hx hb hdec ht (fun z => hP _ _ _ _ (h.1 z) ls H locs (lv_mkL hl _) hw hD hS hn) (fun z => hk _ _ _ (h.2 z) ls H locs hl hw hD hS hn)
    | ne => exact lv_icmp_ne hx hb hdec ht (fun z => hP _ _ _ _ (h.1 z) ls H locs (lv_mkL hl _) hw hD hS hn) (fun z => hk _ _ _ (h.2 (fun q => q z)) ls H locs hl hw hD hS hn)
    | lt => exact lv_icmp_lt hx hb hdec ht (fun z => hP _ _ _ _ (h.1 z) ls H locs (lv_mkL hl _) hw hD hS hn) (fun z => hk _ _ _ (h.2 z) ls H locs hl hw hD hS hn)
    | ge => exact lv_icmp_ge hx hb hdec ht (fun z => hP _ _ _ _ (h.1 z) ls H locs (lv_mkL hl _) hw hD hS hn) (fun z => hk _ _ _ (h.2 z) ls H locs hl hw hD hS hn)
    | gt => exact lv_icmp_gt hx hb hdec ht (fun z => hP _ _ _ _ (h.1 z) ls H locs (lv_mkL hl _) hw hD hS hn) (fun z => hk _ _ _ (h.2 z) ls H locs hl hw hD hS hn)
    | le => exact lv_icmp_le hx hb hdec ht (fun z => hP _ _ _ _ (h.1 z) ls H locs (lv_mkL hl _) hw hD hS hn) (fun z => hk _ _ _ (h.2 z) ls H locs hl hw hD hS hn)
  case goto off =>
    have hl1 : len = 3 := il_of hlen rfl (by decide)
    subst hl1
    have ht := of_decide_eq_true hchk
    exact lv_goto hx hb hdec ht (hP _ _ _ _ h ls H locs (lv_mkL hl _) hw hD hS hn)
  case ifnull off =>
    have hl1 : len = 3 := il_of hlen rfl (by decide)
    subst hl1
    have ht := of_decide_eq_true hchk
    match S, h with
    | .ref x :: r, h => exact lv_ifnull hx hb hdec (hk _ _ _ h ls H locs hl hw hD hS hn)
    | .null :: r, h => exact lv_ifnullN hx hb hdec ht (hP _ _ _ _ h ls H locs (lv_mkL hl _) hw hD hS hn)
  case ifnonnull off =>
    have hl1 : len = 3 := il_of hlen rfl (by decide)
    subst hl1
    have ht := of_decide_eq_true hchk
    match S, h with
    | .ref x :: r, h => exact lv_ifnonnull hx hb hdec ht (hP _ _ _ _ h ls H locs (lv_mkL hl _) hw hD hS hn)
    | .null :: r, h => exact lv_ifnonnullN hx hb hdec (hk _ _ _ h ls H locs hl hw hD hS hn)
  case tableswitch d lo hi offs =>
    obtain ⟨x, r, rfl, h⟩ := stI_inv h
    have hc : (decide (0 ≤ (pc : Int) + d) && tgs pc offs.toList && decide (offs.toList.length = (hi - lo + 1).toNat) && decide (-2147483648 ≤ lo ∧ hi ≤ 2147483647 ∧ lo ≤ hi)) = true := hchk
    simp only [Bool.and_eq_true, decide_eq_true_eq] at hc
    obtain ⟨⟨⟨c1, c2⟩, c3⟩, c4⟩ := hc
    by_cases ho : x.toInt < lo ∨ hi < x.toInt
    · exact lv_tableOut hx hb hdec ho (by omega) (hP _ _ _ _ (h.1 ho) ls H locs (lv_mkL hl _) hw hD hS hn)
    · have o1 : ¬ x.toInt < lo := fun q => ho (Or.inl q)
      have o2 : ¬ hi < x.toInt := fun q => ho (Or.inr q)
      have hj : (x.toInt - lo).toNat < offs.toList.length := by omega
      have hg : offs.toList[(x.toInt - lo).toNat]? = some offs.toList[(x.toInt - lo).toNat] := List.getElem?_eq_getElem hj
      have hz := tsw_get offs.toList lo _ _ h.2 hg (by omega)
      have hq := tgs_of c2 (List.mem_of_getElem? hg)
      exact lv_tableIn hx hb hdec o1 o2 (by rw [← Array.getElem?_toList]; exact hg) (by omega) (hP _ _ _ _ hz ls H locs (lv_mkL hl _) hw hD hS hn)
  case lookupswitch d prs =>
    obtain ⟨x, r, rfl, h⟩ := stI_inv h
    have hc : (decide (0 ≤ (pc : Int) + d) && tgs pc (prs.toList.map (fun x => x.2)) && (prs.toList.zip (prs.toList.drop 1)).all (fun (a, next) => a.1 < next.1) && prs.toList.all (fun x => decide (-2147483648 ≤ x.1 ∧ x.1 ≤ 2147483647))) = true := hchk
    rw [Bool.and_eq_true, Bool.and_eq_true, Bool.and_eq_true] at hc
    obtain ⟨⟨⟨c1, c2⟩, c3⟩, c4⟩ := hc
    have c1 := of_decide_eq_true c1
    have hz := lsw_get prs.toList h
    have hq : 0 ≤ (pc : Int) + Op.lookupswitch.offset prs.toList d x.toInt := by
      rcases off_mem (x := x.toInt) (d := d) prs.toList with q | q
      · rw [q]; exact c1
      · exact tgs_of c2 q
    exact lv_lookup hx hb hdec c3 rfl (by omega) (hP _ _ _ _ hz ls H locs (lv_mkL hl _) hw hD hS hn)
  case getfield ix =>
    have hl1 : len = 3 := il_of hlen rfl (by decide)
    subst hl1
    obtain ⟨o, r, rfl, h⟩ := stA_inv h
    obtain ⟨ci, fs, hm, h⟩ := gtO_inv h
    obtain ⟨h1, hh⟩ := bif_inv (b := ci == a / 32) h
    clear h
    have h1 := eq_of_beq h1
    subst h1
    obtain ⟨C, T, N, c1, c2, c3, c4, -⟩ := chF_inv hchk
    cases hv : vget fs (a % 32) with
    | none => rw [hv] at hh; exact False.elim hh
    | some v =>
      rw [hv] at hh
      exact va_get (D := E.1) (C := C) (T := T) (N := N) hx hb hts (cls_w _ (List.mem_of_getElem? c1)) hown hK hw o (wz_get hm) c1 (a % 32) c2 (hts _ c4) (fun x hf => by rw [c3] at hf; exact hf) (vget_map _ fs _ v hv) hdec (hk _ _ _ hh ls H locs hl hw hD hS hn)
  case putfield ix =>
    have hl1 : len = 3 := il_of hlen rfl (by decide)
    subst hl1
    match S, h with
    | .int x :: .ref o :: r, h =>
      obtain ⟨ci, fs, hm, h⟩ := gtO_inv h
      obtain ⟨h1, ⟨g1, g2⟩, h⟩ := bif_inv (b := ci == a / 32 && (vget fs (a % 32)).isSome) h
      rw [Bool.and_eq_true] at h1
      obtain ⟨h1, h2⟩ := h1
      have h1 := eq_of_beq h1
      subst h1
      obtain ⟨C, T, N, c1, c2, c3, c4, c5⟩ := chF_inv hchk
      obtain ⟨ty0, t1, t2⟩ := cls_t _ (List.mem_of_getElem? c1)
      have hty : fty a = ty0 (a % 32) := by
        unfold fty
        rw [c1]
        show (parseFieldDescriptor (T (a % 32)).2.2.1).getD .int = _
        rw [t1 _ c2]; rfl
      rw [hty] at g1 g2
      have hlt := vget_lt fs _ h2
      refine va_put (D := E.1) (C := C) (T := T) (N := N) hx hb hts (cls_w _ (List.mem_of_getElem? c1)) ty0 t1 t2 hown hK hw hD hS o (wz_get hm) c1 (a % 32) c2 (hts _ c4) (fun x hf => by rw [c3] at hf; exact hf) (c5 rfl) (t1 _ c2) g1 g2 (by rw [List.length_map]; exact hlt) hdec (fun H1 locs1 p1 d1 s1 => ?_)
      have he : (wzf E 0 M).set o (E.2.2.2.2 o, .inr (a / 32, (fs.map (trV E.2.2.2.2)).set (a % 32) (trV E.2.2.2.2 (.int x)))) = wzf E 0 (mset M o (eO (a / 32) (vset fs (a % 32) (.int x)))) := by
        rw [← wz_set]
        exact congrArg (fun z => (wzf E 0 M).set o (E.2.2.2.2 o, .inr (a / 32, z))) (vset_map E.2.2.2.2 x fs (a % 32)).symm
      rw [he] at p1 d1
      exact hk _ _ _ h ls H1 locs1 hl p1 d1 s1 (by rw [mset_len]; exact hn)
  case arraylength =>
    have hl1 : len = 1 := il_of hlen rfl (by decide)
    subst hl1
    obtain ⟨o, r, hS0, hh⟩ := stA_inv h
    clear h
    subst hS0
    revert hh
    cases hm : mget M o with
    | none => exact fun z => z.elim
    | some e =>
      match e, hm with
      | .inl (n, f), hm => exact fun h => va_alen hx hb hK hw o 0 (wz_get hm) rfl rfl hdec (hk _ _ _ h ls H locs hl hw hD hS hn)
      | .inr (.inl (n, f)), hm => exact fun h => va_alen hx hb hK hw o 1 (wz_get hm) rfl rfl hdec (hk _ _ _ h ls H locs hl hw hD hS hn)
      | .inr (.inr (.inl (n, f))), hm => exact fun h => va_alen hx hb hK hw o 2 (wz_get hm) rfl rfl hdec (hk _ _ _ h ls H locs hl hw hD hS hn)
      | .inr (.inr (.inr _)), hm => exact fun z => z.elim
  case iaload =>
    have hl1 : len = 1 := il_of hlen rfl (by decide)
    subst hl1
    obtain ⟨i, r, rfl, h⟩ := stI_inv h
    obtain ⟨o, r, rfl, h⟩ := stA_inv h
    obtain ⟨n, f, hm, hi, h⟩ := gtI_inv h
    exact va_iald hx hb hK hw o 0 (wz_get hm) rfl hi hdec (hk _ _ _ h ls H locs hl hw hD hS hn)
  case aaload =>
    have hl1 : len = 1 := il_of hlen rfl (by decide)
    subst hl1
    obtain ⟨i, r, rfl, h⟩ := stI_inv h
    obtain ⟨o, r, rfl, h⟩ := stA_inv h
    obtain ⟨n, f, hm, hi, h⟩ := gtR_inv h
    refine va_aldq (C := RX3) hx hb hK hw o 2 (wz_get hm) rfl hi hdec ?_
    rw [trV_rf]
    exact hk _ _ _ h ls H locs hl hw hD hS hn
  case iastore =>
    have hl1 : len = 1 := il_of hlen rfl (by decide)
    subst hl1
    obtain ⟨x, r, rfl, h⟩ := stI_inv h
    obtain ⟨i, r, rfl, h⟩ := stI_inv h
    obtain ⟨o, r, rfl, h⟩ := stA_inv h
    obtain ⟨n, f, hm, hi, h⟩ := gtI_inv h
    refine va_iast hx hb hK hw hD hS o 0 (wz_get hm) rfl hi hdec (fun H1 locs1 p1 d1 s1 => ?_)
    have he := wz_set E M o (eI n (upd f i.toNatClampNeg x))
    exact hk _ _ _ h ls H1 locs1 hl (he ▸ p1) (he ▸ d1) s1 (by rw [mset_len]; exact hn)
  case aastore =>
    have hl1 : len = 1 := il_of hlen rfl (by decide)
    subst hl1
    obtain ⟨x, r, rfl, h⟩ := stA_inv h
    obtain ⟨i, r, rfl, h⟩ := stI_inv h
    obtain ⟨o, r, rfl, h⟩ := stA_inv h
    obtain ⟨n, f, hm, h⟩ := gtR_inv h
    obtain ⟨ci, fs, hm2, h⟩ := gtO_inv h
    obtain ⟨h1, hi, hh⟩ := bif_inv (b := ci == 3) h
    clear h
    have h1 := eq_of_beq h1
    subst h1
    refine va_astq (r := (RX3, TX3, 7)) hx hb hK hw hD hS o 2 x 3 (wz_get hm) rfl (wz_get hm2) rfl hi hdec (fun H1 locs1 p1 d1 s1 => ?_)
    have he := wz_set E M o (eR n (va_up f i.toNatClampNeg (some x)))
    have hf : (fun j => (va_up f i.toNatClampNeg (some x) j).map E.2.2.2.2) = va_up (fun j => (f j).map E.2.2.2.2) i.toNatClampNeg (some (E.2.2.2.2 x)) := by
      funext j
      unfold va_up
      by_cases hj : j = i.toNatClampNeg
      · rw [if_pos hj, if_pos hj]; rfl
      · rw [if_neg hj, if_neg hj]
    have he2 : trE E (eR n (va_up f i.toNatClampNeg (some x))) = .inl (E.2.2.2.1, n, .inr (.inr (.inr (.inr (va_up (fun j => (f j).map E.2.2.2.2) i.toNatClampNeg (some (E.2.2.2.2 x))))))) := by
      rw [← hf]; rfl
    rw [he2] at he
    exact hk _ _ _ hh ls H1 locs1 hl (he ▸ p1) (he ▸ d1) s1 (by rw [mset_len]; exact hn)
end STEP
