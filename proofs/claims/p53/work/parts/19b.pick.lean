/-! a run that ends somewhere in a set of ends, ends at one of them -/
abbrev ZZ : Type := Res × Mem
section PICK
variable {Q : Res → Mem → Prop}
theorem ldI_ex {L : Lcs} {i : Nat} {K : ZZ → Int32 → Prop} (h : ldI L i (fun x => ∃ z : ZZ, Q z.1 z.2 ∧ K z x)) : ∃ z : ZZ, Q z.1 z.2 ∧ ldI L i (K z) := by
  obtain ⟨x, hg, z, q, k⟩ := ldI_inv h
  exact ⟨z, q, by unfold ldI; rw [hg]; exact k⟩
theorem ldJ_ex {L : Lcs} {i : Nat} {K : ZZ → Int64 → Prop} (h : ldJ L i (fun x => ∃ z : ZZ, Q z.1 z.2 ∧ K z x)) : ∃ z : ZZ, Q z.1 z.2 ∧ ldJ L i (K z) := by
  obtain ⟨x, hg, z, q, k⟩ := ldJ_inv h
  exact ⟨z, q, by unfold ldJ; rw [hg]; exact k⟩
theorem ldD_ex {L : Lcs} {i : Nat} {K : ZZ → UInt64 → Prop} (h : ldD L i (fun x => ∃ z : ZZ, Q z.1 z.2 ∧ K z x)) : ∃ z : ZZ, Q z.1 z.2 ∧ ldD L i (K z) := by
  obtain ⟨x, hg, z, q, k⟩ := ldD_inv h
  exact ⟨z, q, by unfold ldD; rw [hg]; exact k⟩
theorem ldA_ex {L : Lcs} {i : Nat} {K : ZZ → Nat → Prop} (h : ldA L i (fun x => ∃ z : ZZ, Q z.1 z.2 ∧ K z x)) : ∃ z : ZZ, Q z.1 z.2 ∧ ldA L i (K z) := by
  obtain ⟨x, hg, z, q, k⟩ := ldA_inv h
  exact ⟨z, q, by unfold ldA; rw [hg]; exact k⟩
theorem stI_ex {S : List Value} {K : ZZ → Int32 → List Value → Prop} (h : stI S (fun x r => ∃ z : ZZ, Q z.1 z.2 ∧ K z x r)) : ∃ z : ZZ, Q z.1 z.2 ∧ stI S (K z) := by
  obtain ⟨x, r, e, z, q, k⟩ := stI_inv h
  subst e; exact ⟨z, q, k⟩
theorem stJ_ex {S : List Value} {K : ZZ → Int64 → List Value → Prop} (h : stJ S (fun x r => ∃ z : ZZ, Q z.1 z.2 ∧ K z x r)) : ∃ z : ZZ, Q z.1 z.2 ∧ stJ S (K z) := by
  obtain ⟨x, r, e, z, q, k⟩ := stJ_inv h
  subst e; exact ⟨z, q, k⟩
theorem stD_ex {S : List Value} {K : ZZ → UInt64 → List Value → Prop} (h : stD S (fun x r => ∃ z : ZZ, Q z.1 z.2 ∧ K z x r)) : ∃ z : ZZ, Q z.1 z.2 ∧ stD S (K z) := by
  obtain ⟨x, r, e, z, q, k⟩ := stD_inv h
  subst e; exact ⟨z, q, k⟩
theorem stA_ex {S : List Value} {K : ZZ → Nat → List Value → Prop} (h : stA S (fun x r => ∃ z : ZZ, Q z.1 z.2 ∧ K z x r)) : ∃ z : ZZ, Q z.1 z.2 ∧ stA S (K z) := by
  obtain ⟨x, r, e, z, q, k⟩ := stA_inv h
  subst e; exact ⟨z, q, k⟩
theorem gtI_ex {M : Mem} {o : Nat} {K : ZZ → Nat → (Nat → Int32) → Prop} (h : gtI M o (fun n f => ∃ z : ZZ, Q z.1 z.2 ∧ K z n f)) : ∃ z : ZZ, Q z.1 z.2 ∧ gtI M o (K z) := by
  obtain ⟨n, f, hg, z, q, k⟩ := gtI_inv h
  exact ⟨z, q, by unfold gtI; rw [hg]; exact k⟩
theorem gtJ_ex {M : Mem} {o : Nat} {K : ZZ → Nat → (Nat → Int64) → Prop} (h : gtJ M o (fun n f => ∃ z : ZZ, Q z.1 z.2 ∧ K z n f)) : ∃ z : ZZ, Q z.1 z.2 ∧ gtJ M o (K z) := by
  obtain ⟨n, f, hg, z, q, k⟩ := gtJ_inv h
  exact ⟨z, q, by unfold gtJ; rw [hg]; exact k⟩
theorem gtR_ex {M : Mem} {o : Nat} {K : ZZ → Nat → (Nat → Option Nat) → Prop} (h : gtR M o (fun n f => ∃ z : ZZ, Q z.1 z.2 ∧ K z n f)) : ∃ z : ZZ, Q z.1 z.2 ∧ gtR M o (K z) := by
  obtain ⟨n, f, hg, z, q, k⟩ := gtR_inv h
  exact ⟨z, q, by unfold gtR; rw [hg]; exact k⟩
theorem gtO_ex {M : Mem} {o : Nat} {K : ZZ → Nat → List Value → Prop} (h : gtO M o (fun n f => ∃ z : ZZ, Q z.1 z.2 ∧ K z n f)) : ∃ z : ZZ, Q z.1 z.2 ∧ gtO M o (K z) := by
  obtain ⟨n, f, hg, z, q, k⟩ := gtO_inv h
  exact ⟨z, q, by unfold gtO; rw [hg]; exact k⟩
theorem o2_ex {op : Int32 → Int32 → Int32} {S : List Value} {K : ZZ → List Value → Prop} (h : o2 op S (fun s => ∃ z : ZZ, Q z.1 z.2 ∧ K z s)) : ∃ z : ZZ, Q z.1 z.2 ∧ o2 op S (K z) := by
  obtain ⟨x, y, r, e, z, q, k⟩ := o2_inv h
  subst e; exact ⟨z, q, k⟩
theorem d2_ex {op : Int32 → Int32 → Int32} {S : List Value} {K : ZZ → List Value → Prop} (h : d2 op S (fun s => ∃ z : ZZ, Q z.1 z.2 ∧ K z s)) : ∃ z : ZZ, Q z.1 z.2 ∧ d2 op S (K z) := by
  obtain ⟨x, y, r, e, n, z, q, k⟩ := d2_inv h
  subst e; exact ⟨z, q, n, k⟩
theorem l2_ex {op : Int64 → Int64 → Int64} {S : List Value} {K : ZZ → List Value → Prop} (h : l2 op S (fun s => ∃ z : ZZ, Q z.1 z.2 ∧ K z s)) : ∃ z : ZZ, Q z.1 z.2 ∧ l2 op S (K z) := by
  obtain ⟨x, y, r, e, z, q, k⟩ := l2_inv h
  subst e; exact ⟨z, q, k⟩
theorem f2_ex {op : UInt64 → UInt64 → UInt64} {S : List Value} {K : ZZ → List Value → Prop} (h : f2 op S (fun s => ∃ z : ZZ, Q z.1 z.2 ∧ K z s)) : ∃ z : ZZ, Q z.1 z.2 ∧ f2 op S (K z) := by
  obtain ⟨x, y, r, e, n, z, q, k⟩ := f2_inv h
  subst e; exact ⟨z, q, n, k⟩
theorem mxK_ex {S : List Value} {K : ZZ → Int32 → Int32 → List Value → Prop} (h : mxK S (fun x y r => ∃ z : ZZ, Q z.1 z.2 ∧ K z x y r)) : ∃ z : ZZ, Q z.1 z.2 ∧ mxK S (K z) := by
  obtain ⟨x, y, r, e, z, q, k⟩ := mxK_inv h
  subst e; exact ⟨z, q, k⟩
theorem bif_ex {b : Bool} {A B : ZZ → Prop} (h : bif b then (∃ z : ZZ, Q z.1 z.2 ∧ A z) else ∃ z : ZZ, Q z.1 z.2 ∧ B z) : ∃ z : ZZ, Q z.1 z.2 ∧ bif b then A z else B z := by
  cases b with
  | true => exact h
  | false => exact h
theorem bifF_ex {b : Bool} {A : ZZ → Prop} (h : bif b then (∃ z : ZZ, Q z.1 z.2 ∧ A z) else False) : ∃ z : ZZ, Q z.1 z.2 ∧ bif b then A z else False := by
  cases b with
  | true => exact h
  | false => exact h.elim
theorem Fbif_ex {b : Bool} {A : ZZ → Prop} (h : bif b then False else ∃ z : ZZ, Q z.1 z.2 ∧ A z) : ∃ z : ZZ, Q z.1 z.2 ∧ bif b then False else A z := by
  cases b with
  | true => exact h.elim
  | false => exact h
theorem and_ex {C : Prop} {A : ZZ → Prop} (h : C ∧ ∃ z : ZZ, Q z.1 z.2 ∧ A z) : ∃ z : ZZ, Q z.1 z.2 ∧ (C ∧ A z) := by
  obtain ⟨c, z, q, a⟩ := h
  exact ⟨z, q, c, a⟩
theorem br_ex {c : Prop} {A B : ZZ → Prop} (h : (c → ∃ z : ZZ, Q z.1 z.2 ∧ A z) ∧ (¬ c → ∃ z : ZZ, Q z.1 z.2 ∧ B z)) : ∃ z : ZZ, Q z.1 z.2 ∧ ((c → A z) ∧ (¬ c → B z)) := by
  by_cases hc : c
  · obtain ⟨z, q, a⟩ := h.1 hc
    exact ⟨z, q, fun _ => a, fun n => absurd hc n⟩
  · obtain ⟨z, q, a⟩ := h.2 hc
    exact ⟨z, q, fun n => absurd n hc, fun _ => a⟩
theorem lsw_ex {P : ZZ → Nat → Prop} {pc : Nat} {x d : Int} : ∀ (l : List (Int × Int)), lsw (fun t => ∃ z : ZZ, Q z.1 z.2 ∧ P z t) pc x d l → ∃ z : ZZ, Q z.1 z.2 ∧ lsw (P z) pc x d l := by
  intro l
  induction l with
  | nil => intro h; exact h
  | cons a r ih => intro h; exact br_ex ⟨h.1, fun n => ih (h.2 n)⟩
theorem tsw_none {P : Nat → Prop} {pc : Nat} {x : Int} : ∀ (l : List Int) (v : Int), x < v → tsw P pc x l v := by
  intro l
  induction l with
  | nil => intro v _; trivial
  | cons a r ih => intro v hv; exact ⟨fun e => absurd e (by omega), ih (v + 1) (by omega)⟩
theorem tsw_ex (hne : ∃ z : ZZ, Q z.1 z.2) {P : ZZ → Nat → Prop} {pc : Nat} {x : Int} : ∀ (l : List Int) (v : Int), tsw (fun t => ∃ z : ZZ, Q z.1 z.2 ∧ P z t) pc x l v → ∃ z : ZZ, Q z.1 z.2 ∧ tsw (P z) pc x l v := by
  intro l
  induction l with
  | nil =>
    intro v _
    obtain ⟨z, q⟩ := hne
    exact ⟨z, q, trivial⟩
  | cons a r ih =>
    intro v h
    by_cases hx : x = v
    · obtain ⟨z, q, k⟩ := h.1 hx
      exact ⟨z, q, fun _ => k, tsw_none r (v + 1) (by omega)⟩
    · obtain ⟨z, q, k⟩ := ih (v + 1) h.2
      exact ⟨z, q, fun e => absurd e hx, k⟩
theorem tsw_imp {P : Nat → Prop} {pc : Nat} {x : Int} : ∀ (l : List Int) (v : Int), (x < v ∨ v + l.length ≤ x) → tsw P pc x l v := by
  intro l
  induction l with
  | nil => intro v _; trivial
  | cons a r ih =>
    intro v h
    have hl : (a :: r).length = r.length + 1 := rfl
    refine ⟨fun e => ?_, ih (v + 1) ?_⟩
    · rw [hl] at h; omega
    · rw [hl] at h; omega
theorem clr_ex {call : Nat → List Value → Mem → Res → Mem → Prop} {k : Nat} {av : List Value} {M : Mem} {K : ZZ → List Value → Mem → Prop} (h : clr call Q k av M (fun v M' => ∃ z : ZZ, Q z.1 z.2 ∧ K z v M')) : ∃ z : ZZ, Q z.1 z.2 ∧ clr call (fun r N => r = z.1 ∧ N = z.2) k av M (K z) := by
  rcases h with ⟨v, M', h1, z, q, k⟩ | ⟨x, M', h1, q⟩
  · exact ⟨z, q, Or.inl ⟨v, M', h1, k⟩⟩
  · exact ⟨(.inr x, M'), q, Or.inr ⟨x, M', h1, rfl, rfl⟩⟩
set_option maxHeartbeats 4000000 in
theorem sI_pick {call : Nat → List Value → Mem → Res → Mem → Prop} {rt : Option FieldType} {P : ZZ → Nat → Lcs → List Value → Mem → Prop} {K : ZZ → Lcs → List Value → Mem → Prop} {pc a : Nat} {i : Instr} {L : Lcs} {S : List Value} {M : Mem} (hne : ∃ z : ZZ, Q z.1 z.2)
    (hts : ∀ d lo hi offs, i = .tableswitch d lo hi offs → (offs.toList.length : Int) = hi - lo + 1)
    (h : sI call Q rt (fun pc L S M => ∃ z : ZZ, Q z.1 z.2 ∧ P z pc L S M) pc a i L S M (fun L S M => ∃ z : ZZ, Q z.1 z.2 ∧ K z L S M)) : ∃ z : ZZ, Q z.1 z.2 ∧ sI call (fun r N => r = z.1 ∧ N = z.2) rt (P z) pc a i L S M (K z) := by
  cases i
  case nop => exact h
  case iconst n => exact h
  case bipush n => exact h
  case sipush n => exact h
  case ldc n => exact Fbif_ex (b := a == 0) h
  case ldc_w n => exact Fbif_ex (b := a == 0) h
  case ldc2_w n => exact bif_ex (b := a % 2 == 0) h
  case lconst n => exact h
  case dconst n => exact bif_ex (b := n.val == 0) h
  case iload_n n => exact ldI_ex h
  case iload n => exact ldI_ex h
  case lload_n n => exact ldJ_ex h
  case lload n => exact ldJ_ex h
  case dload_n n => exact ldD_ex h
  case dload n => exact ldD_ex h
  case aload_n n => exact ldA_ex h
  case aload n => exact ldA_ex h
  case istore_n n => exact stI_ex h
  case istore n => exact stI_ex h
  case lstore_n n => exact stJ_ex h
  case lstore n => exact stJ_ex h
  case dstore_n n => exact stD_ex h
  case dstore n => exact stD_ex h
  case astore_n n => exact stA_ex h
  case astore n => exact stA_ex h
  case iinc n x => exact ldI_ex h
  case dup =>
    cases S with
    | nil => exact False.elim h
    | cons v r => exact bifF_ex (b := cat1 v) h
  case pop =>
    cases S with
    | nil => exact False.elim h
    | cons v r => exact bifF_ex (b := cat1 v) h
  case dup2 =>
    match S, h with
    | [], h => exact False.elim h
    | [_], h => exact False.elim h
    | v :: w :: r, h => exact bifF_ex (b := cat1 v && cat1 w) h
  case iadd => exact o2_ex (K := fun z S' => K z L S' M) h
  case isub => exact o2_ex (K := fun z S' => K z L S' M) h
  case imul => exact o2_ex (K := fun z S' => K z L S' M) h
  case idiv => exact d2_ex (K := fun z S' => K z L S' M) h
  case irem => exact d2_ex (K := fun z S' => K z L S' M) h
  case iand => exact o2_ex (K := fun z S' => K z L S' M) h
  case ior => exact o2_ex (K := fun z S' => K z L S' M) h
  case ixor => exact o2_ex (K := fun z S' => K z L S' M) h
  case ishl => exact o2_ex (K := fun z S' => K z L S' M) h
  case ishr => exact o2_ex (K := fun z S' => K z L S' M) h
  case iushr => exact o2_ex (K := fun z S' => K z L S' M) h
  case ladd => exact l2_ex (K := fun z S' => K z L S' M) h
  case lsub => exact l2_ex (K := fun z S' => K z L S' M) h
  case lmul => exact l2_ex (K := fun z S' => K z L S' M) h
  case lor => exact l2_ex (K := fun z S' => K z L S' M) h
  case lshl => exact stI_ex (stI_mono (fun _ _ h => stJ_ex h) h)
  case ddiv => exact f2_ex (K := fun z S' => K z L S' M) h
  case dmul => exact f2_ex (K := fun z S' => K z L S' M) h
  case dsub => exact f2_ex (K := fun z S' => K z L S' M) h
  case i2l => exact stI_ex h
  case i2d => exact stI_ex h
  case d2l => exact stD_ex h
  case dcmp op => exact stD_ex (stD_mono (fun _ _ h => stD_ex h) h)
  case lcmp => exact stJ_ex (stJ_mono (fun _ _ h => stJ_ex h) h)
  case ifCond c off => exact stI_ex (stI_mono (fun _ _ h => br_ex h) h)
  case if_icmp c off => exact stI_ex (stI_mono (fun _ _ h => stI_ex (stI_mono (fun _ _ h => br_ex h) h)) h)
  case goto off => exact h
  case ifnull off =>
    match S, h with
    | .ref _ :: r, h => exact h
    | .null :: r, h => exact h
  case ifnonnull off =>
    match S, h with
    | .ref _ :: r, h => exact h
    | .null :: r, h => exact h
  case tableswitch d lo hi offs =>
    refine stI_ex (stI_mono (fun x r h => ?_) h)
    have hl := hts d lo hi offs rfl
    by_cases ho : x.toInt < lo ∨ hi < x.toInt
    · obtain ⟨z, q, k⟩ := h.1 ho
      exact ⟨z, q, fun _ => k, tsw_imp _ _ (by omega)⟩
    · obtain ⟨z, q, k⟩ := tsw_ex hne _ _ h.2
      exact ⟨z, q, fun y => absurd y ho, k⟩
  case lookupswitch d prs => exact stI_ex (stI_mono (fun _ _ h => lsw_ex _ h) h)
  case getfield ix =>
    refine stA_ex (stA_mono (fun o r h => gtO_ex (gtO_mono (fun ci fs h => ?_) h)) h)
    refine bifF_ex (b := ci == a / 32) (bif_mono (b := ci == a / 32) (fun h => ?_) (fun h => h) h)
    cases hv : vget fs (a % 32) with
    | none => rw [hv] at h; exact False.elim h
    | some v => rw [hv] at h; exact h
  case putfield ix =>
    match S, h with
    | .int x :: .ref o :: r, h => exact gtO_ex (gtO_mono (fun ci fs h => bifF_ex (b := ci == a / 32 && (vget fs (a % 32)).isSome) (bif_mono (b := ci == a / 32 && (vget fs (a % 32)).isSome) (fun h => and_ex h) (fun h => h) h)) h)
  case arraylength =>
    refine stA_ex (stA_mono (fun o r h => ?_) h)
    revert h
    cases mget M o with
    | none => exact fun h => h.elim
    | some e =>
      match e with
      | .inl (_, _) => exact fun h => h
      | .inr (.inl (_, _)) => exact fun h => h
      | .inr (.inr (.inl (_, _))) => exact fun h => h
      | .inr (.inr (.inr (_, _))) => exact fun h => h.elim
  case iaload => exact stI_ex (stI_mono (fun _ _ h => stA_ex (stA_mono (fun _ _ h => gtI_ex (gtI_mono (fun _ _ h => and_ex h) h)) h)) h)
  case aaload => exact stI_ex (stI_mono (fun _ _ h => stA_ex (stA_mono (fun _ _ h => gtR_ex (gtR_mono (fun _ _ h => and_ex h) h)) h)) h)
  case iastore => exact stI_ex (stI_mono (fun _ _ h => stI_ex (stI_mono (fun _ _ h => stA_ex (stA_mono (fun _ _ h => gtI_ex (gtI_mono (fun _ _ h => and_ex h) h)) h)) h)) h)
  case aastore => exact stA_ex (stA_mono (fun _ _ h => stI_ex (stI_mono (fun _ _ h => stA_ex (stA_mono (fun _ _ h => gtR_ex (gtR_mono (fun _ _ h => gtO_ex (gtO_mono (fun ci _ h => bifF_ex (b := ci == 3) (bif_mono (b := ci == 3) (fun h => and_ex h) (fun h => h) h)) h)) h)) h)) h)) h)
  case invokevirtual ix => exact stA_ex (stA_mono (fun _ _ h => gtO_ex (gtO_mono (fun ci _ h => bifF_ex (b := ci == mC a) (bif_mono (b := ci == mC a) (fun h => and_ex ⟨h.1, and_ex ⟨h.2.1, clr_ex h.2.2⟩⟩) (fun h => h) h)) h)) h)
  case invokestatic ix =>
    refine bif_ex (b := a == 1999) (bif_mono (b := a == 1999) (fun h => ?_) (fun h => ?_) h)
    · exact stD_ex (stD_mono (fun _ _ h => and_ex ⟨h.1, clr_ex h.2⟩) h)
    · refine bif_ex (b := a == 1998) (bif_mono (b := a == 1998) (fun h => ?_) (fun h => ?_) h)
      · exact mxK_ex (by
          obtain ⟨x, y, r, e, h⟩ := mxK_inv h
          subst e
          exact and_ex h)
      · exact and_ex ⟨h.1, and_ex ⟨h.2.1, clr_ex h.2.2⟩⟩
  case new ix =>
    match S, h with
    | [], h => exact ⟨(.inr a, M), h, rfl, rfl⟩
  case ireturn => exact stI_ex (stI_mono (fun x r h => ⟨(.inl (some (.int x)), M), h.2.2, h.1, h.2.1, rfl, rfl⟩) h)
  case lreturn => exact stJ_ex (stJ_mono (fun x r h => ⟨(.inl (some (.long x)), M), h.2.2, h.1, h.2.1, rfl, rfl⟩) h)
  case dreturn => exact stD_ex (stD_mono (fun x r h => ⟨(.inl (some (.double x)), M), h.2.2, h.1, h.2.1, rfl, rfl⟩) h)
  case areturn => exact stA_ex (stA_mono (fun x r h => ⟨(.inl (some (.ref x)), M), h.2.2, h.1, h.2.1, rfl, rfl⟩) h)
  case return_ => exact ⟨(.inl none, M), h.2.2, h.1, h.2.1, rfl, rfl⟩
  all_goals exact False.elim h
def tsok : List En → Bool
  | [] => true
  | (_, i, _, _) :: r => (match i with
    | .tableswitch _ lo hi offs => decide ((offs.toList.length : Int) = hi - lo + 1)
    | _ => true) && tsok r
theorem tsok_fnd : ∀ (p : List En) (q : Nat), tsok p = true → tsok (fnd p q) = true := by
  intro p
  induction p with
  | nil => intro q h; exact h
  | cons x r ih =>
    intro q h
    obtain ⟨pc, i, len, a⟩ := x
    have h0 := h
    unfold tsok at h
    rw [Bool.and_eq_true] at h
    show tsok (bif pc == q && nnop i then _ else _) = true
    cases (pc == q && nnop i) with
    | true => exact h0
    | false => exact ih q h.2
theorem wI_pick {call : Nat → List Value → Mem → Res → Mem → Prop} {rt : Option FieldType} {P : ZZ → Nat → Lcs → List Value → Mem → Prop} (hne : ∃ z : ZZ, Q z.1 z.2) : ∀ (p : List En), tsok p = true → ∀ (L : Lcs) (S : List Value) (M : Mem),
    wI call Q rt (fun pc L S M => ∃ z : ZZ, Q z.1 z.2 ∧ P z pc L S M) p L S M → ∃ z : ZZ, Q z.1 z.2 ∧ wI call (fun r N => r = z.1 ∧ N = z.2) rt (P z) p L S M := by
  intro p
  induction p with
  | nil => intro _ L S M h; exact False.elim h
  | cons x r ih =>
    intro ht L S M h
    obtain ⟨pc, i, len, a⟩ := x
    unfold tsok at ht
    rw [Bool.and_eq_true] at ht
    have h1 := sI_mono (K' := fun L' S' M' => ∃ z : ZZ, Q z.1 z.2 ∧ wI call (fun r N => r = z.1 ∧ N = z.2) rt (P z) r L' S' M') (fun _ _ _ _ z => z) (fun L S M z => ih ht.2 L S M z) h
    exact sI_pick (K := fun z L' S' M' => wI call (fun r N => r = z.1 ∧ N = z.2) rt (P z) r L' S' M') hne (fun d lo hi offs e => by
      have h2 := ht.1
      rw [e] at h2
      exact of_decide_eq_true h2) h1
end PICK
/-- a method's run, to a set of ends -/
theorem Cl_goQ {d k n : Nat} {p : List En} {rt : Option FieldType} {av : List Value} {M : Mem} {Q : Res → Mem → Prop} (e : EM k p n rt) (ht : tsok p = true) (h2 : csum av ≤ n) (h3 : ∀ r M', Q r M' → M'.length = M.length) (hne : ∃ r M', Q r M')
    (h : ∀ P : Nat → Lcs → List Value → Mem → Prop, (∀ (pc : Nat) (L : Lcs) (S : List Value) (N : Mem), wI (Cl d) Q rt P (fnd p pc) L S N → P pc L S N) → P 0 (entL n av) [] M) : ∃ r M', Q r M' ∧ Cl (d + 1) k av M r M' := by
  have hne : ∃ z : ZZ, Q z.1 z.2 := by
    obtain ⟨r, M', q⟩ := hne
    exact ⟨(r, M'), q⟩
  obtain ⟨z, q, hz⟩ := h (fun pc L S N => ∃ z : ZZ, Q z.1 z.2 ∧ Go (Cl d) (fun r N => r = z.1 ∧ N = z.2) rt p pc L S N) (fun pc L S N hw => by
    obtain ⟨z, q, k⟩ := wI_pick (P := fun z pc L S N => Go (Cl d) (fun r N => r = z.1 ∧ N = z.2) rt p pc L S N) hne _ (tsok_fnd p pc ht) L S N hw
    exact ⟨z, q, Go.step k⟩)
  exact ⟨z.1, z.2, q, Cl_go e h2 (h3 _ _ q) (fun P hP => hz P hP)⟩
