/-! the interpreter: a memory is a list of cells, a reference its place there; what a run of a method's entries asks for, as a proposition -/
abbrev Ent : Type := (Nat × (Nat → Int32)) ⊕ ((Nat × (Nat → Int64)) ⊕ ((Nat × (Nat → Option Nat)) ⊕ (Nat × List Value)))
abbrev Mem : Type := List Ent
abbrev Lcs : Type := List (Option Value)
abbrev Res : Type := Option Value ⊕ Nat
abbrev eI (n : Nat) (f : Nat → Int32) : Ent := .inl (n, f)
abbrev eJ (n : Nat) (f : Nat → Int64) : Ent := .inr (.inl (n, f))
abbrev eR (n : Nat) (f : Nat → Option Nat) : Ent := .inr (.inr (.inl (n, f)))
abbrev eO (ci : Nat) (fs : List Value) : Ent := .inr (.inr (.inr (ci, fs)))
def mkL : Nat → Lcs → Lcs
  | _, [] => []
  | k, a :: r => (bif k % 2 == 1 then a else none) :: mkL (k / 2) r
def kil (o : Option Value) : Option Value := match o with
  | some w => bif w.category == 2 then none else some w
  | none => none
def stor : Lcs → Nat → Value → Lcs
  | [], _, _ => []
  | _ :: r, 0, v => some v :: (bif v.category == 2 then (match r with
      | [] => []
      | _ :: r' => none :: r') else r)
  | a :: r, 1, v => kil a :: stor r 0 v
  | a :: r, n + 2, v => a :: stor r (n + 1) v
def lget : Lcs → Nat → Option Value
  | [], _ => none
  | a :: _, 0 => a
  | _ :: r, n + 1 => lget r n
def mget : Mem → Nat → Option Ent
  | [], _ => none
  | a :: _, 0 => some a
  | _ :: r, n + 1 => mget r n
def mset : Mem → Nat → Ent → Mem
  | [], _, _ => []
  | _ :: r, 0, e => e :: r
  | a :: r, n + 1, e => a :: mset r n e
def vget : List Value → Nat → Option Value
  | [], _ => none
  | a :: _, 0 => some a
  | _ :: r, n + 1 => vget r n
def vset : List Value → Nat → Value → List Value
  | [], _, _ => []
  | _ :: r, 0, e => e :: r
  | a :: r, n + 1, e => a :: vset r n e
def entL : Nat → List Value → Lcs
  | n, [] => List.replicate n none
  | n, v :: r => some v :: (bif v.category == 2 then none :: entL (n - 2) r else entL (n - 1) r)
def nnop : Instr → Bool
  | .nop => false
  | _ => true
def fnd : List En → Nat → List En
  | [], _ => []
  | e :: r, q => bif e.1 == q && nnop e.2.1 then e :: r else fnd r q
def cat1 (v : Value) : Bool := v.category == 1
def cnd (c : Jvm.ClassFile.Cond) (x : Int32) : Prop := match c with
  | .eq => x = 0
  | .ne => ¬ x = 0
  | .lt => x < 0
  | .ge => 0 ≤ x
  | .gt => 0 < x
  | .le => x ≤ 0
def cnd2 (c : Jvm.ClassFile.Cond) (x y : Int32) : Prop := match c with
  | .eq => x = y
  | .ne => ¬ x = y
  | .lt => x < y
  | .ge => y ≤ x
  | .gt => y < x
  | .le => x ≤ y
def o2 (op : Int32 → Int32 → Int32) (S : List Value) (K : List Value → Prop) : Prop := match S with
  | .int y :: .int x :: r => K (.int (op x y) :: r)
  | _ => False
def d2 (op : Int32 → Int32 → Int32) (S : List Value) (K : List Value → Prop) : Prop := match S with
  | .int y :: .int x :: r => ¬ y = 0 ∧ K (.int (op x y) :: r)
  | _ => False
def l2 (op : Int64 → Int64 → Int64) (S : List Value) (K : List Value → Prop) : Prop := match S with
  | .long y :: .long x :: r => K (.long (op x y) :: r)
  | _ => False
def f2 (op : UInt64 → UInt64 → UInt64) (S : List Value) (K : List Value → Prop) : Prop := match S with
  | .double y :: .double x :: r => vf_n64 (op x y) ∧ K (.double (op x y) :: r)
  | _ => False
def ldI (L : Lcs) (i : Nat) (K : Int32 → Prop) : Prop := match lget L i with
  | some (.int x) => K x
  | _ => False
def ldJ (L : Lcs) (i : Nat) (K : Int64 → Prop) : Prop := match lget L i with
  | some (.long x) => K x
  | _ => False
def ldD (L : Lcs) (i : Nat) (K : UInt64 → Prop) : Prop := match lget L i with
  | some (.double x) => K x
  | _ => False
def ldA (L : Lcs) (i : Nat) (K : Nat → Prop) : Prop := match lget L i with
  | some (.ref x) => K x
  | _ => False
def stI (S : List Value) (K : Int32 → List Value → Prop) : Prop := match S with
  | .int x :: r => K x r
  | _ => False
def stJ (S : List Value) (K : Int64 → List Value → Prop) : Prop := match S with
  | .long x :: r => K x r
  | _ => False
def stD (S : List Value) (K : UInt64 → List Value → Prop) : Prop := match S with
  | .double x :: r => K x r
  | _ => False
def stA (S : List Value) (K : Nat → List Value → Prop) : Prop := match S with
  | .ref x :: r => K x r
  | _ => False
def gtI (M : Mem) (o : Nat) (K : Nat → (Nat → Int32) → Prop) : Prop := match mget M o with
  | some (.inl (n, f)) => K n f
  | _ => False
def gtJ (M : Mem) (o : Nat) (K : Nat → (Nat → Int64) → Prop) : Prop := match mget M o with
  | some (.inr (.inl (n, f))) => K n f
  | _ => False
def gtR (M : Mem) (o : Nat) (K : Nat → (Nat → Option Nat) → Prop) : Prop := match mget M o with
  | some (.inr (.inr (.inl (n, f)))) => K n f
  | _ => False
def gtO (M : Mem) (o : Nat) (K : Nat → List Value → Prop) : Prop := match mget M o with
  | some (.inr (.inr (.inr (ci, fs)))) => K ci fs
  | _ => False
def tsw (P : Nat → Prop) (pc : Nat) (x : Int) : List Int → Int → Prop
  | [], _ => True
  | o :: r, v => (x = v → P ((pc : Int) + o).toNat) ∧ tsw P pc x r (v + 1)
def lsw (P : Nat → Prop) (pc : Nat) (x d : Int) : List (Int × Int) → Prop
  | [] => P ((pc : Int) + d).toNat
  | o :: r => (x = o.1 → P ((pc : Int) + o.2).toNat) ∧ (¬ x = o.1 → lsw P pc x d r)
def fty (a : Nat) : FieldType := match vwCl[a / 32]? with
  | some (_, T, _) => (parseFieldDescriptor (T (a % 32)).2.2.1).getD .int
  | none => .int
def csum : List Value → Nat
  | [] => 0
  | v :: r => v.category + csum r
def clr (call : Nat → List Value → Mem → Res → Mem → Prop) (ret : Res → Mem → Prop) (k : Nat) (av : List Value) (M : Mem) (K : List Value → Mem → Prop) : Prop :=
  (∃ (v : Option Value) (M' : Mem), call k av M (.inl v) M' ∧ K v.toList M') ∨ ∃ (x : Nat) (M' : Mem), call k av M (.inr x) M' ∧ ret (.inr x) M'
def mxK (S : List Value) (X : Int32 → Int32 → List Value → Prop) : Prop := match S with
  | .int y :: .int x :: r => X x y r
  | _ => False
theorem mxK_inv {S : List Value} {X : Int32 → Int32 → List Value → Prop} (h : mxK S X) : ∃ x y r, S = .int y :: .int x :: r ∧ X x y r := by
  unfold mxK at h; split at h
  · exact ⟨_, _, _, rfl, h⟩
  · exact h.elim
def sI (call : Nat → List Value → Mem → Res → Mem → Prop) (ret : Res → Mem → Prop) (rt : Option FieldType) (P : Nat → Lcs → List Value → Mem → Prop) (pc a : Nat) (i : Instr) (L : Lcs) (S : List Value) (M : Mem) (K : Lcs → List Value → Mem → Prop) : Prop :=
  match i with
  | .nop => P (pc - 100000) (mkL a L) S M
  | .iconst n => K L (.int (cst n) :: S) M
  | .bipush n => K L (.int (cst n) :: S) M
  | .sipush n => K L (.int (cst n) :: S) M
  | .ldc _ => bif a == 0 then False else K L (.int (Int32.ofNat a) :: S) M
  | .ldc_w _ => bif a == 0 then False else K L (.int (Int32.ofNat a) :: S) M
  | .ldc2_w _ => bif a % 2 == 0 then K L (.long (Int64.ofNat (a / 2)) :: S) M else K L (.double (UInt64.ofNat (a / 2)) :: S) M
  | .lconst n => K L (.long (Int64.ofNat n.val) :: S) M
  | .dconst n => bif n.val == 0 then K L (.double FP.dconst0 :: S) M else K L (.double FP.dconst1 :: S) M
  | .iload_n n => ldI L n.val fun x => K L (.int x :: S) M
  | .iload n => ldI L n fun x => K L (.int x :: S) M
  | .lload_n n => ldJ L n.val fun x => K L (.long x :: S) M
  | .lload n => ldJ L n fun x => K L (.long x :: S) M
  | .dload_n n => ldD L n.val fun x => K L (.double x :: S) M
  | .dload n => ldD L n fun x => K L (.double x :: S) M
  | .aload_n n => ldA L n.val fun x => K L (.ref x :: S) M
  | .aload n => ldA L n fun x => K L (.ref x :: S) M
  | .istore_n n => stI S fun x r => K (stor L n.val (.int x)) r M
  | .istore n => stI S fun x r => K (stor L n (.int x)) r M
  | .lstore_n n => stJ S fun x r => K (stor L n.val (.long x)) r M
  | .lstore n => stJ S fun x r => K (stor L n (.long x)) r M
  | .dstore_n n => stD S fun x r => K (stor L n.val (.double x)) r M
  | .dstore n => stD S fun x r => K (stor L n (.double x)) r M
  | .astore_n n => stA S fun x r => K (stor L n.val (.ref x)) r M
  | .astore n => stA S fun x r => K (stor L n (.ref x)) r M
  | .iinc n z => ldI L n fun x => K (stor L n (.int (x + cst z))) S M
  | .dup => match S with
    | v :: r => bif cat1 v then K L (v :: v :: r) M else False
    | _ => False
  | .pop => match S with
    | v :: r => bif cat1 v then K L r M else False
    | _ => False
  | .dup2 => match S with
    | v :: w :: r => bif cat1 v && cat1 w then K L (v :: w :: v :: w :: r) M else False
    | _ => False
  | .iadd => o2 (· + ·) S fun S' => K L S' M
  | .isub => o2 (· - ·) S fun S' => K L S' M
  | .imul => o2 (· * ·) S fun S' => K L S' M
  | .idiv => d2 (· / ·) S fun S' => K L S' M
  | .irem => d2 (fun x y => x - x / y * y) S fun S' => K L S' M
  | .iand => o2 (· &&& ·) S fun S' => K L S' M
  | .ior => o2 (· ||| ·) S fun S' => K L S' M
  | .ixor => o2 (· ^^^ ·) S fun S' => K L S' M
  | .ishl => o2 (fun x y => x <<< (y &&& 31)) S fun S' => K L S' M
  | .ishr => o2 (fun x y => x >>> (y &&& 31)) S fun S' => K L S' M
  | .iushr => o2 (fun x y => (x.toUInt32 >>> (y.toUInt32 &&& Int32.toUInt32 31)).toInt32) S fun S' => K L S' M
  | .ladd => l2 (· + ·) S fun S' => K L S' M
  | .lsub => l2 (· - ·) S fun S' => K L S' M
  | .lmul => l2 (· * ·) S fun S' => K L S' M
  | .lor => l2 (· ||| ·) S fun S' => K L S' M
  | .lshl => stI S fun y r => stJ r fun x r' => K L (.long (x <<< (y.toInt64 &&& 63)) :: r') M
  | .ddiv => f2 FP.ddiv S fun S' => K L S' M
  | .dmul => f2 FP.dmul S fun S' => K L S' M
  | .dsub => f2 FP.dsub S fun S' => K L S' M
  | .i2l => stI S fun x r => K L (.long x.toInt64 :: r) M
  | .i2d => stI S fun x r => K L (.double (FP.i2d x) :: r) M
  | .d2l => stD S fun x r => K L (.long (FP.d2l x) :: r) M
  | .dcmp op => stD S fun y r => stD r fun x r' => K L (.int (Op.cmpValue (FP.dcmp x y) op) :: r') M
  | .lcmp => stJ S fun y r => stJ r fun x r' => K L (.int (lg_cmp x y) :: r') M
  | .ifCond c _ => stI S fun x r => (cnd c x → P (a / 1024) (mkL (a % 1024) L) r M) ∧ (¬ cnd c x → K L r M)
  | .if_icmp c _ => stI S fun y r => stI r fun x r' => (cnd2 c x y → P (a / 1024) (mkL (a % 1024) L) r' M) ∧ (¬ cnd2 c x y → K L r' M)
  | .goto _ => P (a / 1024) (mkL (a % 1024) L) S M
  | .ifnull _ => match S with
    | .ref _ :: r => K L r M
    | .null :: r => P (a / 1024) (mkL (a % 1024) L) r M
    | _ => False
  | .ifnonnull _ => match S with
    | .ref _ :: r => P (a / 1024) (mkL (a % 1024) L) r M
    | .null :: r => K L r M
    | _ => False
  | .tableswitch d lo hi offs => stI S fun x r => (x.toInt < lo ∨ hi < x.toInt → P ((pc : Int) + d).toNat (mkL a L) r M) ∧ tsw (fun t => P t (mkL a L) r M) pc x.toInt offs.toList lo
  | .lookupswitch d prs => stI S fun x r => lsw (fun t => P t (mkL a L) r M) pc x.toInt d prs.toList
  | .getfield _ => stA S fun o r => gtO M o fun ci fs => bif ci == a / 32 then (match vget fs (a % 32) with
    | some v => K L (v :: r) M
    | none => False) else False
  | .putfield _ => match S with
    | .int x :: .ref o :: r => gtO M o fun ci fs => bif ci == a / 32 && (vget fs (a % 32)).isSome then (narrow (fty a) (.int x) = .int x ∧ fits (fty a) (.int x) = true) ∧ K L r (mset M o (eO ci (vset fs (a % 32) (.int x)))) else False
    | _ => False
  | .arraylength => stA S fun o r => match mget M o with
    | some (.inl (n, _)) => K L (.int (nI n) :: r) M
    | some (.inr (.inl (n, _))) => K L (.int (nI n) :: r) M
    | some (.inr (.inr (.inl (n, _)))) => K L (.int (nI n) :: r) M
    | _ => False
  | .iaload => stI S fun i r => stA r fun o r' => gtI M o fun n f => vp_in i n ∧ K L (.int (f i.toNatClampNeg) :: r') M
  | .aaload => stI S fun i r => stA r fun o r' => gtR M o fun n f => vp_in i n ∧ K L (va_rf (f i.toNatClampNeg) :: r') M
  | .iastore => stI S fun x q => stI q fun i r => stA r fun o r' => gtI M o fun n f => vp_in i n ∧ K L r' (mset M o (eI n (upd f i.toNatClampNeg x)))
  | .aastore => stA S fun x q => stI q fun i r => stA r fun o r' => gtR M o fun n f => gtO M x fun ci _ => bif ci == 3 then vp_in i n ∧ K L r' (mset M o (eR n (va_up f i.toNatClampNeg (some x)))) else False
  | .invokevirtual _ => stA (S.drop (mN a)) fun b r => gtO M b fun ci _ => bif ci == mC a then csum r ≤ 8 ∧ (S.take (mN a)).length = mN a ∧ clr call ret a (.ref b :: (S.take (mN a)).reverse) M fun v M' => K L (v ++ r) M' else False
  | .invokestatic _ => bif a == 1999 then stD S fun x r => csum r ≤ 8 ∧ clr call ret 1999 [.double x] M fun v M' => K L (v ++ r) M'
    else bif a == 1998 then mxK S fun x y r => csum r ≤ 8 ∧ K L (.int (if x < y then y else x) :: r) M
    else csum (S.drop (mN (a % 1000))) ≤ 8 ∧ (S.take (mN (a % 1000))).length = mN (a % 1000) ∧ clr call ret (a % 1000) (S.take (mN (a % 1000))).reverse M fun v M' => K L (v ++ S.drop (mN (a % 1000))) M'
  | .new _ => match S with
    | [] => ret (.inr a) M
    | _ => False
  | .ireturn => stI S fun x r => r = [] ∧ (∃ ty, rt = some ty ∧ narrow ty (.int x) = .int x) ∧ ret (.inl (some (.int x))) M
  | .lreturn => stJ S fun x r => r = [] ∧ rt = some .long ∧ ret (.inl (some (.long x))) M
  | .dreturn => stD S fun x r => r = [] ∧ rt = some .double ∧ ret (.inl (some (.double x))) M
  | .areturn => stA S fun x r => r = [] ∧ (∃ C, rt = some (.object C)) ∧ ret (.inl (some (.ref x))) M
  | .return_ => S = [] ∧ rt = none ∧ ret (.inl none) M
  | _ => False
def wI (call : Nat → List Value → Mem → Res → Mem → Prop) (ret : Res → Mem → Prop) (rt : Option FieldType) (P : Nat → Lcs → List Value → Mem → Prop) : List En → Lcs → List Value → Mem → Prop
  | [], _, _, _ => False
  | (pc, i, _, a) :: r, L, S, M => sI call ret rt P pc a i L S M (fun L' S' M' => wI call ret rt P r L' S' M')
/-- a run of the entries p from pc on: the least that is closed under the steps -/
def Go (call : Nat → List Value → Mem → Res → Mem → Prop) (ret : Res → Mem → Prop) (rt : Option FieldType) (p : List En) (pc : Nat) (L : Lcs) (S : List Value) (M : Mem) : Prop :=
  ∀ P : Nat → Lcs → List Value → Mem → Prop, (∀ pc L S M, wI call ret rt P (fnd p pc) L S M → P pc L S M) → P pc L S M
def Cl : Nat → Nat → List Value → Mem → Res → Mem → Prop
  | 0 => fun _ _ _ _ _ => False
  | d + 1 => fun k av M r M' => (k = 1999 ∧ 2 ≤ d ∧ ∃ b : UInt64, av = [.double b] ∧ vf_n64 b ∧ r = .inl (some (.long b.toInt64)) ∧ M' = M) ∨
    ((k < nM ∧ csum av ≤ mL k ∧ M'.length = M.length) ∧ Go (Cl d) (fun r' N => r' = r ∧ N = M') (mR k) (mP k) 0 (entL (mL k) av) [] M)
