/-! a method that answers an int answers an int -/
def nsw : Instr → Bool
  | .tableswitch .. => false
  | _ => true
theorem lsw_no {pc : Nat} {x d : Int} : ∀ (l : List (Int × Int)), lsw (fun _ => False) pc x d l → False := by
  intro l
  induction l with
  | nil => exact fun h => h
  | cons a r ih =>
    intro h
    by_cases z : x = a.1
    · exact h.1 z
    · exact ih (h.2 z)
theorem br_no {c : Prop} (h : (c → False) ∧ (¬ c → False)) : False := h.2 h.1
theorem bif_no {b : Bool} {X Y : Prop} (h : bif b then X else Y) (h1 : X → False) (h2 : Y → False) : False := by
  cases b with
  | true => exact h1 h
  | false => exact h2 h
set_option maxHeartbeats 4000000 in
theorem sI_int {call : Nat → List Value → Mem → Res → Mem → Prop} {v : Value} {M0 : Mem} {rt : Option FieldType} {pc a : Nat} {i : Instr} {L : Lcs} {S : List Value} {M : Mem} (hrt : rt = some .int ∨ rt = some .boolean) (hv : ∀ u, ¬ v = .int u) (hi : nsw i = true)
    (h : sI call (fun r N => r = .inl (some v) ∧ N = M0) rt (fun _ _ _ _ => False) pc a i L S M (fun _ _ _ => False)) : False := by
  cases i
  case tableswitch => cases hi
  case ldc_w n => exact bif_no (b := a == 0) h (fun z => z) (fun z => z)
  case ldc2_w n => exact bif_no (b := a % 2 == 0) h (fun z => z) (fun z => z)
  case dconst n => exact bif_no (b := n.val == 0) h (fun z => z) (fun z => z)
  case dup =>
    cases S with
    | nil => exact h
    | cons v r => exact bif_no (b := cat1 v) h (fun z => z) (fun z => z)
  case pop =>
    cases S with
    | nil => exact h
    | cons v r => exact bif_no (b := cat1 v) h (fun z => z) (fun z => z)
  case dup2 =>
    match S, h with
    | [], h => exact h
    | [_], h => exact h
    | v :: w :: r, h => exact bif_no (b := cat1 v && cat1 w) h (fun z => z) (fun z => z)
  case iadd => obtain ⟨_, _, _, _, h⟩ := o2_inv (op := (· + ·)) (K := fun _ => False) h; exact h
  case isub => obtain ⟨_, _, _, _, h⟩ := o2_inv (op := (· - ·)) (K := fun _ => False) h; exact h
  case imul => obtain ⟨_, _, _, _, h⟩ := o2_inv (op := (· * ·)) (K := fun _ => False) h; exact h
  case iand => obtain ⟨_, _, _, _, h⟩ := o2_inv (op := (· &&& ·)) (K := fun _ => False) h; exact h
  case ior => obtain ⟨_, _, _, _, h⟩ := o2_inv (op := (· ||| ·)) (K := fun _ => False) h; exact h
  case ixor => obtain ⟨_, _, _, _, h⟩ := o2_inv (op := (· ^^^ ·)) (K := fun _ => False) h; exact h
  case ishl => obtain ⟨_, _, _, _, h⟩ := o2_inv (op := fun x y => x <<< (y &&& 31)) (K := fun _ => False) h; exact h
  case ishr => obtain ⟨_, _, _, _, h⟩ := o2_inv (op := fun x y => x >>> (y &&& 31)) (K := fun _ => False) h; exact h
  case iushr => obtain ⟨_, _, _, _, h⟩ := o2_inv (op := fun x y => (x.toUInt32 >>> (y.toUInt32 &&& Int32.toUInt32 31)).toInt32) (K := fun _ => False) h; exact h
  case idiv => obtain ⟨_, _, _, _, _, h⟩ := d2_inv (op := (· / ·)) (K := fun _ => False) h; exact h
  case irem => obtain ⟨_, _, _, _, _, h⟩ := d2_inv (op := fun x y => x - x / y * y) (K := fun _ => False) h; exact h
  case ladd => obtain ⟨_, _, _, _, h⟩ := l2_inv (op := (· + ·)) (K := fun _ => False) h; exact h
  case lsub => obtain ⟨_, _, _, _, h⟩ := l2_inv (op := (· - ·)) (K := fun _ => False) h; exact h
  case lmul => obtain ⟨_, _, _, _, h⟩ := l2_inv (op := (· * ·)) (K := fun _ => False) h; exact h
  case lor => obtain ⟨_, _, _, _, h⟩ := l2_inv (op := (· ||| ·)) (K := fun _ => False) h; exact h
  case ddiv => obtain ⟨_, _, _, _, _, h⟩ := f2_inv (op := FP.ddiv) (K := fun _ => False) h; exact h
  case dmul => obtain ⟨_, _, _, _, _, h⟩ := f2_inv (op := FP.dmul) (K := fun _ => False) h; exact h
  case dsub => obtain ⟨_, _, _, _, _, h⟩ := f2_inv (op := FP.dsub) (K := fun _ => False) h; exact h
  case lshl => obtain ⟨_, _, _, h⟩ := stI_inv h; obtain ⟨_, _, _, h⟩ := stJ_inv h; exact h
  case dcmp => obtain ⟨_, _, _, h⟩ := stD_inv h; obtain ⟨_, _, _, h⟩ := stD_inv h; exact h
  case lcmp => obtain ⟨_, _, _, h⟩ := stJ_inv h; obtain ⟨_, _, _, h⟩ := stJ_inv h; exact h
  case ifCond => obtain ⟨_, _, _, h⟩ := stI_inv h; exact br_no h
  case if_icmp => obtain ⟨_, _, _, h⟩ := stI_inv h; obtain ⟨_, _, _, h⟩ := stI_inv h; exact br_no h
  case ifnull =>
    match S, h with
    | .ref _ :: r, h => exact h
    | .null :: r, h => exact h
  case ifnonnull =>
    match S, h with
    | .ref _ :: r, h => exact h
    | .null :: r, h => exact h
  case lookupswitch d prs => obtain ⟨_, _, _, h⟩ := stI_inv h; exact lsw_no _ h
  case getfield =>
    obtain ⟨o, r, -, h⟩ := stA_inv h
    obtain ⟨ci, fs, -, h⟩ := gtO_inv h
    obtain ⟨-, h⟩ := bif_inv (b := ci == a / 32) h
    revert h
    cases vget fs (a % 32) with
    | none => exact fun h => h
    | some v => exact fun h => h
  case putfield =>
    match S, h with
    | .int x :: .ref o :: r, h =>
      obtain ⟨ci, fs, -, h⟩ := gtO_inv h
      obtain ⟨-, -, h⟩ := bif_inv (b := ci == a / 32 && (vget fs (a % 32)).isSome) h
      exact h
  case arraylength =>
    obtain ⟨o, r, -, h⟩ := stA_inv h
    revert h
    cases mget M o with
    | none => exact fun h => h
    | some e =>
      match e with
      | .inl (n, f) => exact fun h => h
      | .inr (.inl (n, f)) => exact fun h => h
      | .inr (.inr (.inl (n, f))) => exact fun h => h
      | .inr (.inr (.inr _)) => exact fun h => h
  case iaload => obtain ⟨_, _, _, h⟩ := stI_inv h; obtain ⟨_, _, _, h⟩ := stA_inv h; obtain ⟨_, _, _, _, h⟩ := gtI_inv h; exact h
  case laload => obtain ⟨_, _, _, h⟩ := stI_inv h; obtain ⟨_, _, _, h⟩ := stA_inv h; obtain ⟨_, _, _, _, h⟩ := gtJ_inv h; exact h
  case aaload => obtain ⟨_, _, _, h⟩ := stI_inv h; obtain ⟨_, _, _, h⟩ := stA_inv h; obtain ⟨_, _, _, _, h⟩ := gtR_inv h; exact h
  case iastore => obtain ⟨_, _, _, h⟩ := stI_inv h; obtain ⟨_, _, _, h⟩ := stI_inv h; obtain ⟨_, _, _, h⟩ := stA_inv h; obtain ⟨_, _, _, _, h⟩ := gtI_inv h; exact h
  case lastore => obtain ⟨_, _, _, h⟩ := stJ_inv h; obtain ⟨_, _, _, h⟩ := stI_inv h; obtain ⟨_, _, _, h⟩ := stA_inv h; obtain ⟨_, _, _, _, h⟩ := gtJ_inv h; exact h
  case aastore =>
    obtain ⟨_, _, _, h⟩ := stA_inv h; obtain ⟨_, _, _, h⟩ := stI_inv h; obtain ⟨_, _, _, h⟩ := stA_inv h
    obtain ⟨_, _, _, h⟩ := gtR_inv h; obtain ⟨ci, _, _, h⟩ := gtO_inv h
    obtain ⟨-, -, h⟩ := bif_inv (b := ci == 3) h
    exact h
  case invokevirtual =>
    obtain ⟨b, r, -, h⟩ := stA_inv h
    obtain ⟨ci, fs, -, h⟩ := gtO_inv h
    obtain ⟨-, -, -, h⟩ := bif_inv (b := ci == mC a) h
    rcases h with ⟨_, _, _, h⟩ | ⟨_, _, _, h, -⟩
    · exact h
    · cases h
  case invokestatic =>
    have h : (bif a == 1999 then stD S fun x r => csum r ≤ 8 ∧ clr call (fun r N => r = .inl (some v) ∧ N = M0) 1999 [.double x] M fun v M' => False
      else bif a == 1998 then mxK S fun x y r => csum r ≤ 8 ∧ False
      else csum (S.drop (mN (a % 1000))) ≤ 8 ∧ (S.take (mN (a % 1000))).length = mN (a % 1000) ∧ clr call (fun r N => r = .inl (some v) ∧ N = M0) (a % 1000) (S.take (mN (a % 1000))).reverse M fun v M' => False) := h
    refine bif_no (b := a == 1999) h (fun h => ?_) (fun h => bif_no (b := a == 1998) h (fun h => ?_) (fun h => ?_))
    · obtain ⟨_, _, _, _, h⟩ := stD_inv h
      rcases h with ⟨_, _, _, h⟩ | ⟨_, _, _, h, -⟩
      · exact h
      · cases h
    · obtain ⟨_, _, _, _, _, h⟩ := mxK_inv h
      exact h
    · obtain ⟨_, _, h⟩ := h
      rcases h with ⟨_, _, _, h⟩ | ⟨_, _, _, h, -⟩
      · exact h
      · cases h
  case new =>
    match S, h with
    | [], h => cases h.1
  case ireturn =>
    obtain ⟨x, r, -, -, -, h, -⟩ := stI_inv h
    injection h with h; injection h with h
    exact hv x h.symm
  case lreturn => obtain ⟨x, r, -, -, h, -⟩ := stJ_inv h; rcases hrt with q | q <;> (rw [q] at h; cases h)
  case dreturn => obtain ⟨x, r, -, -, h, -⟩ := stD_inv h; rcases hrt with q | q <;> (rw [q] at h; cases h)
  case areturn => obtain ⟨x, r, -, -, ⟨C, h⟩, -⟩ := stA_inv h; rcases hrt with q | q <;> (rw [q] at h; cases h)
  case return_ => obtain ⟨-, h, -⟩ := h; rcases hrt with q | q <;> (rw [q] at h; cases h)
  case iload_n => obtain ⟨_, _, h⟩ := ldI_inv h; exact h
  case iload => obtain ⟨_, _, h⟩ := ldI_inv h; exact h
  case iinc => obtain ⟨_, _, h⟩ := ldI_inv h; exact h
  case lload_n => obtain ⟨_, _, h⟩ := ldJ_inv h; exact h
  case lload => obtain ⟨_, _, h⟩ := ldJ_inv h; exact h
  case dload_n => obtain ⟨_, _, h⟩ := ldD_inv h; exact h
  case dload => obtain ⟨_, _, h⟩ := ldD_inv h; exact h
  case aload_n => obtain ⟨_, _, h⟩ := ldA_inv h; exact h
  case aload => obtain ⟨_, _, h⟩ := ldA_inv h; exact h
  case istore_n => obtain ⟨_, _, _, h⟩ := stI_inv h; exact h
  case istore => obtain ⟨_, _, _, h⟩ := stI_inv h; exact h
  case i2l => obtain ⟨_, _, _, h⟩ := stI_inv h; exact h
  case i2d => obtain ⟨_, _, _, h⟩ := stI_inv h; exact h
  case lstore_n => obtain ⟨_, _, _, h⟩ := stJ_inv h; exact h
  case lstore => obtain ⟨_, _, _, h⟩ := stJ_inv h; exact h
  case dstore_n => obtain ⟨_, _, _, h⟩ := stD_inv h; exact h
  case dstore => obtain ⟨_, _, _, h⟩ := stD_inv h; exact h
  case d2l => obtain ⟨_, _, _, h⟩ := stD_inv h; exact h
  case astore_n => obtain ⟨_, _, _, h⟩ := stA_inv h; exact h
  case astore => obtain ⟨_, _, _, h⟩ := stA_inv h; exact h
  all_goals exact h
theorem Cl_int {d k : Nat} {av : List Value} {M : Mem} {v : Value} {M' : Mem} (h : Cl d k av M (.inl (some v)) M') (hrt : mR k = some .int ∨ mR k = some .boolean) (hsw : (mP k).all (fun e => nsw e.2.1) = true) (hk : ¬ k = 1999) : ∃ u, v = .int u := by
  cases d with
  | zero => exact h.elim
  | succ d =>
    rcases h with ⟨h, -⟩ | ⟨-, h⟩
    · exact absurd h hk
    · refine Classical.byContradiction fun hv => ?_
      have hv : ∀ u, ¬ v = .int u := fun u z => hv ⟨u, z⟩
      refine h (fun _ _ _ _ => False) ?_
      intro pc L S N hw
      have go : ∀ (r : List En) (L : Lcs) (S : List Value) (N : Mem), (∀ x ∈ r, x ∈ mP k) → wI (Cl d) (fun r' N => r' = .inl (some v) ∧ N = M') (mR k) (fun _ _ _ _ => False) r L S N → False := by
        intro r
        induction r with
        | nil => intro L S N _ z; exact z
        | cons x r ih =>
          intro L S N hr z
          obtain ⟨pc, i, len, a⟩ := x
          have z : sI (Cl d) (fun r' N => r' = .inl (some v) ∧ N = M') (mR k) (fun _ _ _ _ => False) pc a i L S N (fun L' S' M1 => wI (Cl d) (fun r' N => r' = .inl (some v) ∧ N = M') (mR k) (fun _ _ _ _ => False) r L' S' M1) := z
          exact sI_int hrt hv (List.all_eq_true.mp hsw _ (hr _ List.mem_cons_self)) (sI_mono (fun _ _ _ _ z => z) (fun L S N z => ih L S N (fun x hx => hr x (List.mem_cons_of_mem _ hx)) z) z)
      exact go _ L S N (fun x hx => fnd_sub _ _ _ hx) hw
