/-! helpers of the runs: numbers, branches, calls -/
theorem nI_and (a b : Nat) : nI a &&& nI b = nI (a &&& b) := by
  unfold nI
  apply Int32.toBitVec_inj.mp
  show BitVec.ofNat 32 a &&& BitVec.ofNat 32 b = BitVec.ofNat 32 (a &&& b)
  rw [BitVec.ofNat_and]
theorem nI_or (a b : Nat) : nI a ||| nI b = nI (a ||| b) := by
  unfold nI
  apply Int32.toBitVec_inj.mp
  show BitVec.ofNat 32 a ||| BitVec.ofNat 32 b = BitVec.ofNat 32 (a ||| b)
  rw [BitVec.ofNat_or]
theorem nI_xor (a b : Nat) : nI a ^^^ nI b = nI (a ^^^ b) := by
  unfold nI
  apply Int32.toBitVec_inj.mp
  show BitVec.ofNat 32 a ^^^ BitVec.ofNat 32 b = BitVec.ofNat 32 (a ^^^ b)
  rw [BitVec.ofNat_xor]
theorem rI {x y : Int32} (h : x = y) : (Sum.inl (some (Value.int x)) : Res) = .inl (some (.int y)) := by rw [h]
def cN (c : Jvm.ClassFile.Cond) (a b : Nat) : Prop := match c with
  | .eq => a = b
  | .ne => ¬ a = b
  | .lt => a < b
  | .ge => b ≤ a
  | .gt => b < a
  | .le => a ≤ b
theorem cN_iff (c : Jvm.ClassFile.Cond) {a b : Nat} (ha : a < 2 ^ 31) (hb : b < 2 ^ 31) : cnd2 c (nI a) (nI b) ↔ cN c a b := by
  cases c with
  | eq => exact nI_eq ha hb
  | ne => exact not_congr (nI_eq ha hb)
  | lt => exact nI_ltI ha hb
  | ge => exact nI_leI hb ha
  | gt => exact nI_ltI hb ha
  | le => exact nI_leI ha hb
theorem b2 {c : Jvm.ClassFile.Cond} {x y : Int32} {A B : Prop} (a b : Nat) (hx : x = nI a) (hy : y = nI b) (ha : a < 2 ^ 31) (hb : b < 2 ^ 31) (f : cN c a b → A) (g : ¬ cN c a b → B) : (cnd2 c x y → A) ∧ (¬ cnd2 c x y → B) := by
  subst hx; subst hy
  exact ⟨fun h => f ((cN_iff c ha hb).mp h), fun h => g (fun q => h ((cN_iff c ha hb).mpr q))⟩
theorem cnd_0 (c : Jvm.ClassFile.Cond) (x : Int32) : cnd c x ↔ cnd2 c x (nI 0) := by
  cases c <;> exact Iff.rfl
theorem b1 {c : Jvm.ClassFile.Cond} {x : Int32} {A B : Prop} (a : Nat) (hx : x = nI a) (ha : a < 2 ^ 31) (f : cN c a 0 → A) (g : ¬ cN c a 0 → B) : (cnd c x → A) ∧ (¬ cnd c x → B) := by
  subst hx
  exact ⟨fun h => f ((cN_iff c ha (by decide)).mp ((cnd_0 c _).mp h)), fun h => g (fun q => h ((cnd_0 c _).mpr ((cN_iff c ha (by decide)).mpr q)))⟩
/-- a branch on any number -/
theorem bx {A B X Y : Prop} (f : A → X) (g : ¬ A → Y) : (A → X) ∧ (¬ A → Y) := ⟨f, g⟩
theorem vi {x : Int32} {n N : Nat} (hx : x = nI n) (h : n < N) (hN : N < 2 ^ 31) : vp_in x N := by
  subst hx; exact vp_in_nI h hN
theorem sh_all : (List.range 31).all (fun c => decide (nI 1 <<< (nI c &&& 31) = nI (2 ^ c))) = true := by decide +kernel
theorem sh_1 {c : Nat} (h : c < 31) : nI 1 <<< (nI c &&& 31) = nI (2 ^ c) := of_decide_eq_true (List.all_eq_true.mp sh_all c (List.mem_range.mpr h))
theorem sh_7 {k : Nat} (h : k < 3) : nI 7 <<< (nI (3 * k) &&& 31) = nI (7 * 8 ^ k) := by
  have h3 : k = 0 ∨ k = 1 ∨ k = 2 := by omega
  rcases h3 with rfl | rfl | rfl <;> decide
/-- a run in a small memory, at the places l of a larger one -/
def lf (l : List Nat) (i : Nat) : Nat := l.getD i 0
def hold (f : Nat → Nat) : Nat → Mem → Mem → Prop
  | _, [], _ => True
  | k, e :: r, M => mget M (f k) = some (rnE f e) ∧ hold f (k + 1) r M
theorem hold_get {f : Nat → Nat} {M : Mem} : ∀ (m : Mem) (k : Nat), hold f k m M → ∀ (i : Nat) (e : Ent), mget m i = some e → mget M (f (k + i)) = some (rnE f e) := by
  intro m
  induction m with
  | nil => intro k _ i e h; cases h
  | cons a r ih =>
    intro k h i e he
    cases i with
    | zero =>
      have h0 : a = e := Option.some.inj he
      rw [← h0]; exact h.1
    | succ i =>
      have h1 : k + (i + 1) = k + 1 + i := by omega
      rw [h1]
      exact ih (k + 1) h.2 i e he
def injB (l : List Nat) (n : Nat) : Bool := (List.range n).all (fun i => (List.range n).all (fun j => i == j || !(lf l i == lf l j)))
theorem injB_ok {l : List Nat} {n : Nat} (h : injB l n = true) : injK (lf l) 0 n := by
  intro i j hi hj he
  rw [Nat.zero_add, Nat.zero_add] at he
  have h1 := List.all_eq_true.mp (List.all_eq_true.mp h i (List.mem_range.mpr hi)) j (List.mem_range.mpr hj)
  rw [he] at h1
  simpa using h1
theorem Cl_at (l : List Nat) {d k : Nat} {av : List Value} {m : Mem} {r : Res} {m' M : Mem} (h : Cl d k av m r m') (n : Nat) (hn : m.length = n) (hi : injB l n = true) (he : hold (lf l) 0 m M) : Cl d k (av.map (trV (lf l))) M (rnR (lf l) r) (putb (lf l) 0 m' M) := by
  subst hn
  exact Cl_lift (lf l) d k av m r m' h M (injB_ok hi) (fun i z => by
    obtain ⟨e, q⟩ := mget_some z
    exact mget_lt (hold_get m 0 he i e q)) (hold_get m 0 he)
/-- .. that changes nothing -/
theorem Cl_rd (l : List Nat) {d k : Nat} {av : List Value} {m : Mem} {r : Res} {M : Mem} (h : Cl d k av m r m) (n : Nat) (hn : m.length = n) (hi : injB l n = true) (he : hold (lf l) 0 m M) : Cl d k (av.map (trV (lf l))) M (rnR (lf l) r) M := by
  have h1 := Cl_at l h n hn hi he
  subst hn
  rwa [putb_self (lf l) (injB_ok hi) (fun i z => by
    obtain ⟨e, q⟩ := mget_some z
    exact mget_lt (hold_get m 0 he i e q)) (hold_get m 0 he)] at h1
/-- .. to a memory that is named -/
theorem Cl_wr (l : List Nat) {d k : Nat} {av : List Value} {m : Mem} {r : Res} {m' M : Mem} (h : Cl d k av m r m') (n : Nat) (hn : m.length = n) (hi : injB l n = true) (he : hold (lf l) 0 m M) (M' : Mem) (hM : putb (lf l) 0 m' M = M') : Cl d k (av.map (trV (lf l))) M (rnR (lf l) r) M' := by
  subst hM
  exact Cl_at l h n hn hi he
theorem Cl_s {d k : Nat} {av : List Value} {r : Res} {M : Mem} (h : Cl d k av [] r []) : Cl d k (av.map (trV (lf []))) M (rnR (lf []) r) M := Cl_rd [] h 0 rfl rfl trivial
/-- counting up -/
def cntN (p : Nat → Bool) (n : Nat) : Nat := (List.range n).countP p
theorem cntN_succ (p : Nat → Bool) (n : Nat) : cntN p (n + 1) = cntN p n + (if p n then 1 else 0) := by
  unfold cntN
  rw [List.range_succ, List.countP_append, List.countP_cons, List.countP_nil, Nat.zero_add]
theorem cntN_le (p : Nat → Bool) (n : Nat) : cntN p n ≤ n := by
  have h := List.countP_le_length (p := p) (l := List.range n)
  rwa [List.length_range] at h
theorem cntN_t {p : Nat → Bool} {n : Nat} (h : p n = true) : nI (cntN p n) + nI 1 = nI (cntN p (n + 1)) := by
  rw [cntN_succ, h, nI_add]; rfl
theorem cntN_f {p : Nat → Bool} {n : Nat} (h : p n = false) : nI (cntN p n) + nI 0 = nI (cntN p (n + 1)) := by
  rw [cntN_succ, h, nI_add]; rfl
