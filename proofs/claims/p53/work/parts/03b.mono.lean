/-! the propositions grow with what is asked of the rest -/
theorem o2_mono {op : Int32 → Int32 → Int32} {S : List Value} {K K' : List Value → Prop} (hk : ∀ s, K s → K' s) (h : o2 op S K) : o2 op S K' := by
  unfold o2 at h ⊢; split at h
  · exact hk _ h
  · exact h
theorem d2_mono {op : Int32 → Int32 → Int32} {S : List Value} {K K' : List Value → Prop} (hk : ∀ s, K s → K' s) (h : d2 op S K) : d2 op S K' := by
  unfold d2 at h ⊢; split at h
  · exact ⟨h.1, hk _ h.2⟩
  · exact h
theorem l2_mono {op : Int64 → Int64 → Int64} {S : List Value} {K K' : List Value → Prop} (hk : ∀ s, K s → K' s) (h : l2 op S K) : l2 op S K' := by
  unfold l2 at h ⊢; split at h
  · exact hk _ h
  · exact h
theorem f2_mono {op : UInt64 → UInt64 → UInt64} {S : List Value} {K K' : List Value → Prop} (hk : ∀ s, K s → K' s) (h : f2 op S K) : f2 op S K' := by
  unfold f2 at h ⊢; split at h
  · exact ⟨h.1, hk _ h.2⟩
  · exact h
theorem ldI_mono {L : Lcs} {i : Nat} {K K' : Int32 → Prop} (hk : ∀ s, K s → K' s) (h : ldI L i K) : ldI L i K' := by
  unfold ldI at h ⊢; split at h
  · exact hk _ h
  · exact h
theorem ldJ_mono {L : Lcs} {i : Nat} {K K' : Int64 → Prop} (hk : ∀ s, K s → K' s) (h : ldJ L i K) : ldJ L i K' := by
  unfold ldJ at h ⊢; split at h
  · exact hk _ h
  · exact h
theorem ldD_mono {L : Lcs} {i : Nat} {K K' : UInt64 → Prop} (hk : ∀ s, K s → K' s) (h : ldD L i K) : ldD L i K' := by
  unfold ldD at h ⊢; split at h
  · exact hk _ h
  · exact h
theorem ldA_mono {L : Lcs} {i : Nat} {K K' : Nat → Prop} (hk : ∀ s, K s → K' s) (h : ldA L i K) : ldA L i K' := by
  unfold ldA at h ⊢; split at h
  · exact hk _ h
  · exact h
theorem stI_mono {S : List Value} {K K' : Int32 → List Value → Prop} (hk : ∀ x s, K x s → K' x s) (h : stI S K) : stI S K' := by
  unfold stI at h ⊢; split at h
  · exact hk _ _ h
  · exact h
theorem stJ_mono {S : List Value} {K K' : Int64 → List Value → Prop} (hk : ∀ x s, K x s → K' x s) (h : stJ S K) : stJ S K' := by
  unfold stJ at h ⊢; split at h
  · exact hk _ _ h
  · exact h
theorem stD_mono {S : List Value} {K K' : UInt64 → List Value → Prop} (hk : ∀ x s, K x s → K' x s) (h : stD S K) : stD S K' := by
  unfold stD at h ⊢; split at h
  · exact hk _ _ h
  · exact h
theorem stA_mono {S : List Value} {K K' : Nat → List Value → Prop} (hk : ∀ x s, K x s → K' x s) (h : stA S K) : stA S K' := by
  unfold stA at h ⊢; split at h
  · exact hk _ _ h
  · exact h
theorem gtI_mono {M : Mem} {o : Nat} {K K' : Nat → (Nat → Int32) → Prop} (hk : ∀ x s, K x s → K' x s) (h : gtI M o K) : gtI M o K' := by
  unfold gtI at h ⊢; split at h
  · exact hk _ _ h
  · exact h
theorem gtJ_mono {M : Mem} {o : Nat} {K K' : Nat → (Nat → Int64) → Prop} (hk : ∀ x s, K x s → K' x s) (h : gtJ M o K) : gtJ M o K' := by
  unfold gtJ at h ⊢; split at h
  · exact hk _ _ h
  · exact h
theorem gtR_mono {M : Mem} {o : Nat} {K K' : Nat → (Nat → Option Nat) → Prop} (hk : ∀ x s, K x s → K' x s) (h : gtR M o K) : gtR M o K' := by
  unfold gtR at h ⊢; split at h
  · exact hk _ _ h
  · exact h
theorem gtO_mono {M : Mem} {o : Nat} {K K' : Nat → List Value → Prop} (hk : ∀ x s, K x s → K' x s) (h : gtO M o K) : gtO M o K' := by
  unfold gtO at h ⊢; split at h
  · exact hk _ _ h
  · exact h
theorem bif_mono {b : Bool} {X Y X' Y' : Prop} (h1 : X → X') (h2 : Y → Y') (h : bif b then X else Y) : bif b then X' else Y' := by
  cases b with
  | true => exact h1 h
  | false => exact h2 h
theorem tsw_mono {P P' : Nat → Prop} (hp : ∀ t, P t → P' t) {pc : Nat} {x : Int} : ∀ (l : List Int) (v : Int), tsw P pc x l v → tsw P' pc x l v := by
  intro l
  induction l with
  | nil => intro v h; exact h
  | cons a r ih => intro v h; exact ⟨fun z => hp _ (h.1 z), ih _ h.2⟩
theorem lsw_mono {P P' : Nat → Prop} (hp : ∀ t, P t → P' t) {pc : Nat} {x d : Int} : ∀ (l : List (Int × Int)), lsw P pc x d l → lsw P' pc x d l := by
  intro l
  induction l with
  | nil => intro h; exact hp _ h
  | cons a r ih => intro h; exact ⟨fun z => hp _ (h.1 z), fun z => ih (h.2 z)⟩
theorem clr_mono {call : Nat → List Value → Mem → Res → Mem → Prop} {ret : Res → Mem → Prop} {k : Nat} {av : List Value} {M : Mem} {K K' : List Value → Mem → Prop} (hk : ∀ x s, K x s → K' x s) (h : clr call ret k av M K) : clr call ret k av M K' := by
  rcases h with ⟨v, M1, h1, h2⟩ | h
  · exact Or.inl ⟨v, M1, h1, hk _ _ h2⟩
  · exact Or.inr h
set_option maxHeartbeats 4000000 in
theorem sI_mono {call : Nat → List Value → Mem → Res → Mem → Prop} {ret : Res → Mem → Prop} {rt : Option FieldType} {P P' : Nat → Lcs → List Value → Mem → Prop} {K K' : Lcs → List Value → Mem → Prop} {pc a : Nat} {i : Instr} {L : Lcs} {S : List Value} {M : Mem}
    (hP : ∀ pc L S M, P pc L S M → P' pc L S M) (hK : ∀ L S M, K L S M → K' L S M) (h : sI call ret rt P pc a i L S M K) : sI call ret rt P' pc a i L S M K' := by
  cases i
  case nop => exact hP _ _ _ _ h
  case iconst n => exact hK _ _ _ h
  case bipush n => exact hK _ _ _ h
  case sipush n => exact hK _ _ _ h
  case ldc n => exact bif_mono (b := a == 0) (fun z => z) (fun z => hK _ _ _ z) h
  case ldc_w n => exact bif_mono (b := a == 0) (fun z => z) (fun z => hK _ _ _ z) h
  case ldc2_w n => exact bif_mono (b := a % 2 == 0) (fun z => hK _ _ _ z) (fun z => hK _ _ _ z) h
  case lconst n => exact hK _ _ _ h
  case dconst n => exact bif_mono (b := n.val == 0) (fun z => hK _ _ _ z) (fun z => hK _ _ _ z) h
  case iload_n n => exact ldI_mono (fun _ z => hK _ _ _ z) h
  case iload n => exact ldI_mono (fun _ z => hK _ _ _ z) h
  case lload_n n => exact ldJ_mono (fun _ z => hK _ _ _ z) h
  case lload n => exact ldJ_mono (fun _ z => hK _ _ _ z) h
  case dload_n n => exact ldD_mono (fun _ z => hK _ _ _ z) h
  case dload n => exact ldD_mono (fun _ z => hK _ _ _ z) h
  case aload_n n => exact ldA_mono (fun _ z => hK _ _ _ z) h
  case aload n => exact ldA_mono (fun _ z => hK _ _ _ z) h
  case istore_n n => exact stI_mono (fun _ _ z => hK _ _ _ z) h
  case istore n => exact stI_mono (fun _ _ z => hK _ _ _ z) h
  case lstore_n n => exact stJ_mono (fun _ _ z => hK _ _ _ z) h
  case lstore n => exact stJ_mono (fun _ _ z => hK _ _ _ z) h
  case dstore_n n => exact stD_mono (fun _ _ z => hK _ _ _ z) h
  case dstore n => exact stD_mono (fun _ _ z => hK _ _ _ z) h
  case astore_n n => exact stA_mono (fun _ _ z => hK _ _ _ z) h
  case astore n => exact stA_mono (fun _ _ z => hK _ _ _ z) h
  case iinc n x => exact ldI_mono (fun _ z => hK _ _ _ z) h
  case dup =>
    cases S with
    | nil => exact h
    | cons v r => exact bif_mono (b := cat1 v) (fun z => hK _ _ _ z) (fun z => z) h
  case pop =>
    cases S with
    | nil => exact h
    | cons v r => exact bif_mono (b := cat1 v) (fun z => hK _ _ _ z) (fun z => z) h
  case dup2 =>
    match S, h with
    | [], h => exact h
    | [_], h => exact h
    | v :: w :: r, h => exact bif_mono (b := cat1 v && cat1 w) (fun z => hK _ _ _ z) (fun z => z) h
  case iadd => exact o2_mono (K := fun S' => K L S' M) (K' := fun S' => K' L S' M) (fun _ z => hK _ _ _ z) h
  case isub => exact o2_mono (K := fun S' => K L S' M) (K' := fun S' => K' L S' M) (fun _ z => hK _ _ _ z) h
  case imul => exact o2_mono (K := fun S' => K L S' M) (K' := fun S' => K' L S' M) (fun _ z => hK _ _ _ z) h
  case idiv => exact d2_mono (K := fun S' => K L S' M) (K' := fun S' => K' L S' M) (fun _ z => hK _ _ _ z) h
  case irem => exact d2_mono (K := fun S' => K L S' M) (K' := fun S' => K' L S' M) (fun _ z => hK _ _ _ z) h
  case iand => exact o2_mono (K := fun S' => K L S' M) (K' := fun S' => K' L S' M) (fun _ z => hK _ _ _ z) h
  case ior => exact o2_mono (K := fun S' => K L S' M) (K' := fun S' => K' L S' M) (fun _ z => hK _ _ _ z) h
  case ixor => exact o2_mono (K := fun S' => K L S' M) (K' := fun S' => K' L S' M) (fun _ z => hK _ _ _ z) h
  case ishl => exact o2_mono (K := fun S' => K L S' M) (K' := fun S' => K' L S' M) (fun _ z => hK _ _ _ z) h
  case ishr => exact o2_mono (K := fun S' => K L S' M) (K' := fun S' => K' L S' M) (fun _ z => hK _ _ _ z) h
  case iushr => exact o2_mono (K := fun S' => K L S' M) (K' := fun S' => K' L S' M) (fun _ z => hK _ _ _ z) h
  case ladd => exact l2_mono (K := fun S' => K L S' M) (K' := fun S' => K' L S' M) (fun _ z => hK _ _ _ z) h
  case lsub => exact l2_mono (K := fun S' => K L S' M) (K' := fun S' => K' L S' M) (fun _ z => hK _ _ _ z) h
  case lmul => exact l2_mono (K := fun S' => K L S' M) (K' := fun S' => K' L S' M) (fun _ z => hK _ _ _ z) h
  case lor => exact l2_mono (K := fun S' => K L S' M) (K' := fun S' => K' L S' M) (fun _ z => hK _ _ _ z) h
  case lshl => exact stI_mono (fun _ _ z => stJ_mono (fun _ _ z => hK _ _ _ z) z) h
  case ddiv => exact f2_mono (K := fun S' => K L S' M) (K' := fun S' => K' L S' M) (fun _ z => hK _ _ _ z) h
  case dmul => exact f2_mono (K := fun S' => K L S' M) (K' := fun S' => K' L S' M) (fun _ z => hK _ _ _ z) h
  case dsub => exact f2_mono (K := fun S' => K L S' M) (K' := fun S' => K' L S' M) (fun _ z => hK _ _ _ z) h
  case i2l => exact stI_mono (fun _ _ z => hK _ _ _ z) h
  case i2d => exact stI_mono (fun _ _ z => hK _ _ _ z) h
  case d2l => exact stD_mono (fun _ _ z => hK _ _ _ z) h
  case dcmp op => exact stD_mono (fun _ _ z => stD_mono (fun _ _ z => hK _ _ _ z) z) h
  case lcmp => exact stJ_mono (fun _ _ z => stJ_mono (fun _ _ z => hK _ _ _ z) z) h
  case ifCond c off => exact stI_mono (fun _ _ z => ⟨fun q => hP _ _ _ _ (z.1 q), fun q => hK _ _ _ (z.2 q)⟩) h
  case if_icmp c off => exact stI_mono (fun _ _ z => stI_mono (fun _ _ z => ⟨fun q => hP _ _ _ _ (z.1 q), fun q => hK _ _ _ (z.2 q)⟩) z) h
  case goto off => exact hP _ _ _ _ h
  case ifnull off =>
    match S, h with
    | .ref _ :: r, h => exact hK _ _ _ h
    | .null :: r, h => exact hP _ _ _ _ h
  case ifnonnull off =>
    match S, h with
    | .ref _ :: r, h => exact hP _ _ _ _ h
    | .null :: r, h => exact hK _ _ _ h
  case tableswitch d lo hi offs => exact stI_mono (fun _ _ z => ⟨fun q => hP _ _ _ _ (z.1 q), tsw_mono (fun _ q => hP _ _ _ _ q) _ _ z.2⟩) h
  case lookupswitch d prs => exact stI_mono (fun _ _ z => lsw_mono (fun _ q => hP _ _ _ _ q) _ z) h
  case getfield ix =>
    refine stA_mono (fun o r z => gtO_mono (fun ci fs z => bif_mono (b := ci == a / 32) (fun z => ?_) (fun z => z) z) z) h
    cases hv : vget fs (a % 32) with
    | none => rw [hv] at z; exact z
    | some v => rw [hv] at z; exact hK _ _ _ z
  case putfield ix =>
    match S, h with
    | .int x :: .ref o :: r, h => exact gtO_mono (fun ci fs z => bif_mono (b := ci == a / 32 && (vget fs (a % 32)).isSome) (fun z => ⟨z.1, hK _ _ _ z.2⟩) (fun z => z) z) h
  case arraylength =>
    refine stA_mono (fun o r z => ?_) h
    revert z
    cases mget M o with
    | none => exact fun z => z
    | some e =>
      match e with
      | .inl (_, _) => exact fun z => hK _ _ _ z
      | .inr (.inl (_, _)) => exact fun z => hK _ _ _ z
      | .inr (.inr (.inl (_, _))) => exact fun z => hK _ _ _ z
      | .inr (.inr (.inr (_, _))) => exact fun z => z
  case iaload => exact stI_mono (fun _ _ z => stA_mono (fun _ _ z => gtI_mono (fun _ _ z => ⟨z.1, hK _ _ _ z.2⟩) z) z) h
  case aaload => exact stI_mono (fun _ _ z => stA_mono (fun _ _ z => gtR_mono (fun _ _ z => ⟨z.1, hK _ _ _ z.2⟩) z) z) h
  case iastore => exact stI_mono (fun _ _ z => stI_mono (fun _ _ z => stA_mono (fun _ _ z => gtI_mono (fun _ _ z => ⟨z.1, hK _ _ _ z.2⟩) z) z) z) h
  case aastore => exact stA_mono (fun _ _ z => stI_mono (fun _ _ z => stA_mono (fun _ _ z => gtR_mono (fun _ _ z => gtO_mono (fun ci _ z => bif_mono (b := ci == 3) (fun z => ⟨z.1, hK _ _ _ z.2⟩) (fun z => z) z) z) z) z) z) h
  case invokevirtual ix => exact stA_mono (fun _ _ z => gtO_mono (fun ci _ z => bif_mono (b := ci == mC a) (fun z => ⟨z.1, z.2.1, clr_mono (fun _ _ z => hK _ _ _ z) z.2.2⟩) (fun z => z) z) z) h
  case invokestatic ix => exact bif_mono (b := a == 1999) (fun z => stD_mono (fun _ _ z => ⟨z.1, clr_mono (fun _ _ z => hK _ _ _ z) z.2⟩) z) (fun z => bif_mono (b := a == 1998) (fun z => by
    obtain ⟨x, y, r, e, z⟩ := mxK_inv z
    subst e
    exact ⟨z.1, hK _ _ _ z.2⟩) (fun z => ⟨z.1, z.2.1, clr_mono (fun _ _ z => hK _ _ _ z) z.2.2⟩) z) h
  all_goals exact h
theorem wI_mono {call : Nat → List Value → Mem → Res → Mem → Prop} {ret : Res → Mem → Prop} {rt : Option FieldType} {P P' : Nat → Lcs → List Value → Mem → Prop} (hP : ∀ pc L S M, P pc L S M → P' pc L S M) :
    ∀ (r : List En) (L : Lcs) (S : List Value) (M : Mem), wI call ret rt P r L S M → wI call ret rt P' r L S M := by
  intro r
  induction r with
  | nil => intro L S M h; exact h
  | cons x r ih =>
    intro L S M h
    obtain ⟨pc, i, len, a⟩ := x
    exact sI_mono hP (fun L S M z => ih L S M z) h
theorem Go.step {call : Nat → List Value → Mem → Res → Mem → Prop} {ret : Res → Mem → Prop} {rt : Option FieldType} {p : List En} {pc : Nat} {L : Lcs} {S : List Value} {M : Mem} (h : wI call ret rt (Go call ret rt p) (fnd p pc) L S M) : Go call ret rt p pc L S M := by
  intro P hP
  exact hP _ _ _ _ (wI_mono (fun pc L S M z => z P hP) _ _ _ _ h)
theorem Cl_mk {d k : Nat} {av : List Value} {M : Mem} {r : Res} {M' : Mem} {p : List En} (hp : mP k = p) (h1 : k < nM) (h2 : csum av ≤ mL k) (h3 : M'.length = M.length) (h : Go (Cl d) (fun r' N => r' = r ∧ N = M') (mR k) p 0 (entL (mL k) av) [] M) : Cl (d + 1) k av M r M' := by
  subst hp
  exact Or.inr ⟨⟨h1, h2, h3⟩, h⟩
