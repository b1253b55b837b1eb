/-! what the interpreter's propositions say of the machine: one instruction, then a method -/
abbrev Env4 : Type := va_G × (ClassId × (ClassId × (ClassId × (Nat → Nat))))
def trV (as : Nat → Nat) : Value → Value
  | .ref a => .ref (as a)
  | v => v
theorem trV_cat (as : Nat → Nat) (v : Value) : (trV as v).category = v.category := by cases v <;> rfl
def trE (E : Env4) : Ent → va_E
  | .inl (n, f) => .inl (E.2.1, n, .inl f)
  | .inr (.inl (n, f)) => .inl (E.2.2.1, n, .inr (.inl f))
  | .inr (.inr (.inl (n, f))) => .inl (E.2.2.2.1, n, .inr (.inr (.inr (.inr fun j => (f j).map E.2.2.2.2))))
  | .inr (.inr (.inr (ci, fs))) => .inr (ci, fs.map (trV E.2.2.2.2))
def wzf (E : Env4) : Nat → Mem → va_W
  | _, [] => []
  | k, e :: r => (E.2.2.2.2 k, trE E e) :: wzf E (k + 1) r
abbrev tysE (E : Env4) : List (ClassId × FieldType) := [(E.2.1, .int), (E.2.2.1, .int), (E.2.2.2.1, .object RX3)]
theorem mget_lt : ∀ {M : Mem} {i : Nat} {e : Ent}, mget M i = some e → i < M.length := by
  intro M
  induction M with
  | nil => intro i e h; cases h
  | cons a r ih =>
    intro i e h
    cases i with
    | zero => exact Nat.succ_pos _
    | succ i => exact Nat.succ_lt_succ (ih h)
theorem mset_len : ∀ (M : Mem) (i : Nat) (e : Ent), (mset M i e).length = M.length := by
  intro M
  induction M with
  | nil => intro i e; rfl
  | cons a r ih =>
    intro i e
    cases i with
    | zero => rfl
    | succ i => show (mset r i e).length + 1 = r.length + 1; rw [ih]
theorem wzf_len (E : Env4) : ∀ (M : Mem) (k : Nat), (wzf E k M).length = M.length := by
  intro M
  induction M with
  | nil => intro k; rfl
  | cons a r ih => intro k; show (wzf E (k + 1) r).length + 1 = r.length + 1; rw [ih]
theorem wzf_get (E : Env4) : ∀ (M : Mem) (k i : Nat) (e : Ent), mget M i = some e → (wzf E k M)[i]? = some (E.2.2.2.2 (k + i), trE E e) := by
  intro M
  induction M with
  | nil => intro k i e h; cases h
  | cons a r ih =>
    intro k i e h
    cases i with
    | zero =>
      have h1 : a = e := Option.some.inj h
      subst h1
      rfl
    | succ i =>
      have h1 := ih (k + 1) i e h
      have h2 : k + 1 + i = k + (i + 1) := by omega
      rw [h2] at h1
      exact h1
theorem wzf_inv (E : Env4) : ∀ (M : Mem) (k i : Nat) (q : Nat × va_E), (wzf E k M)[i]? = some q → i < M.length ∧ q.1 = E.2.2.2.2 (k + i) := by
  intro M
  induction M with
  | nil => intro k i q h; cases h
  | cons a r ih =>
    intro k i q h
    cases i with
    | zero =>
      have h1 : (E.2.2.2.2 k, trE E a) = q := Option.some.inj h
      subst h1
      exact ⟨Nat.succ_pos _, rfl⟩
    | succ i =>
      have h1 := ih (k + 1) i q h
      have h2 : k + 1 + i = k + (i + 1) := by omega
      rw [h2] at h1
      exact ⟨Nat.succ_lt_succ h1.1, h1.2⟩
theorem wzf_set (E : Env4) : ∀ (M : Mem) (k i : Nat) (e : Ent), (wzf E k M).set i (E.2.2.2.2 (k + i), trE E e) = wzf E k (mset M i e) := by
  intro M
  induction M with
  | nil => intro k i e; rfl
  | cons a r ih =>
    intro k i e
    cases i with
    | zero => rfl
    | succ i =>
      have h1 := ih (k + 1) i e
      have h2 : k + 1 + i = k + (i + 1) := by omega
      rw [h2] at h1
      show (E.2.2.2.2 k, trE E a) :: (wzf E (k + 1) r).set i _ = (E.2.2.2.2 k, trE E a) :: wzf E (k + 1) (mset r i e)
      rw [h1]
theorem wz_get {E : Env4} {M : Mem} {i : Nat} {e : Ent} (h : mget M i = some e) : (wzf E 0 M)[i]? = some (E.2.2.2.2 i, trE E e) := by
  have h1 := wzf_get E M 0 i e h
  rwa [Nat.zero_add] at h1
theorem wz_set (E : Env4) (M : Mem) (i : Nat) (e : Ent) : (wzf E 0 M).set i (E.2.2.2.2 i, trE E e) = wzf E 0 (mset M i e) := by
  have h1 := wzf_set E M 0 i e
  rwa [Nat.zero_add] at h1
def lcl (as : Nat → Nat) : Nat → Lcs → List (Nat × Value)
  | _, [] => []
  | k, some v :: r => (k, trV as v) :: lcl as (k + 1) r
  | k, none :: r => lcl as (k + 1) r
theorem lcl_mem (as : Nat → Nat) : ∀ (L : Lcs) (k : Nat) (q : Nat × Value), q ∈ lcl as k L → ∃ (i : Nat) (v : Value), lget L i = some v ∧ q = (k + i, trV as v) := by
  intro L
  induction L with
  | nil => intro k q h; cases h
  | cons a r ih =>
    intro k q h
    have key : q ∈ lcl as (k + 1) r → ∃ (i : Nat) (v : Value), lget (a :: r) i = some v ∧ q = (k + i, trV as v) := by
      intro h
      obtain ⟨i, v, h1, h2⟩ := ih (k + 1) q h
      refine ⟨i + 1, v, h1, ?_⟩
      have h3 : k + 1 + i = k + (i + 1) := by omega
      rw [← h3]; exact h2
    cases a with
    | none => exact key h
    | some v =>
      rcases List.mem_cons.mp h with h | h
      · exact ⟨0, v, rfl, h⟩
      · exact key h
theorem mem_lcl (as : Nat → Nat) : ∀ (L : Lcs) (k i : Nat) (v : Value), lget L i = some v → (k + i, trV as v) ∈ lcl as k L := by
  intro L
  induction L with
  | nil => intro k i v h; cases h
  | cons a r ih =>
    intro k i v h
    cases i with
    | zero =>
      have h : a = some v := h
      subst h
      exact List.mem_cons_self
    | succ i =>
      have h1 := ih (k + 1) i v h
      have h3 : k + 1 + i = k + (i + 1) := by omega
      rw [h3] at h1
      cases a with
      | none => exact h1
      | some w => exact List.mem_cons_of_mem _ h1
theorem kil_some {o : Option Value} {w : Value} (h : kil o = some w) : o = some w ∧ ¬ w.category = 2 := by
  cases o with
  | none => cases h
  | some u =>
    have h : (bif u.category == 2 then none else some u) = some w := h
    cases hb : (u.category == 2) with
    | true => rw [hb] at h; cases h
    | false =>
      rw [hb] at h
      have h1 : u = w := Option.some.inj h
      subst h1
      exact ⟨rfl, fun q => by rw [q] at hb; cases hb⟩
theorem lget_stor : ∀ (L : Lcs) (i : Nat) (v : Value) (j : Nat) (w : Value), lget (stor L i v) j = some w → (j = i ∧ w = v) ∨ (¬ j = i ∧ lget L j = some w ∧ ¬ (j + 1 = i ∧ w.category = 2) ∧ ¬ (v.category = 2 ∧ j = i + 1)) := by
  intro L
  induction L with
  | nil => intro i v j w h; cases h
  | cons a r ih =>
    intro i v j w h
    match i with
    | 0 =>
      cases j with
      | zero => exact Or.inl ⟨rfl, (Option.some.inj h).symm⟩
      | succ j =>
        right
        change lget (cond (v.category == 2) _ r) j = some w at h
        cases hb : (v.category == 2) with
        | false =>
          rw [hb] at h
          refine ⟨by omega, h, by omega, fun q => ?_⟩
          rw [q.1] at hb; cases hb
        | true =>
          rw [hb] at h
          cases r with
          | nil => cases h
          | cons b r' =>
            cases j with
            | zero => cases h
            | succ j => exact ⟨by omega, h, by omega, by omega⟩
    | 1 =>
      cases j with
      | zero =>
        right
        have h : kil a = some w := h
        obtain ⟨h1, h2⟩ := kil_some h
        exact ⟨by omega, h1, fun q => h2 q.2, by omega⟩
      | succ j =>
        have h : lget (stor r 0 v) j = some w := h
        rcases ih 0 v j w h with ⟨h1, h2⟩ | ⟨h1, h2, h3, h4⟩
        · exact Or.inl ⟨by omega, h2⟩
        · exact Or.inr ⟨by omega, h2, by omega, fun q => h4 ⟨q.1, by omega⟩⟩
    | n + 2 =>
      cases j with
      | zero => exact Or.inr ⟨by omega, h, by omega, by omega⟩
      | succ j =>
        have h : lget (stor r (n + 1) v) j = some w := h
        rcases ih (n + 1) v j w h with ⟨h1, h2⟩ | ⟨h1, h2, h3, h4⟩
        · exact Or.inl ⟨by omega, h2⟩
        · exact Or.inr ⟨by omega, h2, fun q => h3 ⟨by omega, q.2⟩, fun q => h4 ⟨q.1, by omega⟩⟩
theorem lget_mkL : ∀ (L : Lcs) (k j : Nat) (w : Value), lget (mkL k L) j = some w → lget L j = some w := by
  intro L
  induction L with
  | nil => intro k j w h; cases h
  | cons a r ih =>
    intro k j w h
    cases j with
    | zero =>
      have h : (bif k % 2 == 1 then a else none) = some w := h
      cases hb : (k % 2 == 1) with
      | true => rw [hb] at h; exact h
      | false => rw [hb] at h; cases h
    | succ j => exact ih (k / 2) j w h
theorem lv_mono {ls : Array Slot} {nL : Nat} {l l' : List (Nat × Value)} (h : lv_has ls nL l) (hs : ∀ q ∈ l', q ∈ l) : lv_has ls nL l' := ⟨h.1, h.2.1, fun q hq => h.2.2 q (hs q hq)⟩
theorem lv_get {ls : Array Slot} {nL : Nat} {as : Nat → Nat} {L : Lcs} (h : lv_has ls nL (lcl as 0 L)) {i : Nat} {v : Value} (hi : lget L i = some v) : ls[i]? = some (.val (trV as v)) := by
  have h1 := mem_lcl as L 0 i v hi
  rw [Nat.zero_add] at h1
  exact h.2.2 _ h1
theorem lv_mkL {ls : Array Slot} {nL : Nat} {as : Nat → Nat} {L : Lcs} (h : lv_has ls nL (lcl as 0 L)) (k : Nat) : lv_has ls nL (lcl as 0 (mkL k L)) := lv_mono h fun q hq => by
  obtain ⟨i, v, h1, h2⟩ := lcl_mem as _ 0 q hq
  rw [h2]
  exact mem_lcl as L 0 i v (lget_mkL L k i v h1)
theorem stor_sub1 {as : Nat → Nat} {L : Lcs} {i : Nat} {v : Value} : ∀ q ∈ lcl as 0 (stor L i v), q ∈ (i, trV as v) :: (lcl as 0 L).filter (fun q => !(q.1 == i) && !(q.1 + 1 == i && q.2.category == 2)) := by
  intro q hq
  obtain ⟨j, w, h1, h2⟩ := lcl_mem as _ 0 q hq
  rw [Nat.zero_add] at h2
  rcases lget_stor L i v j w h1 with ⟨e1, e2⟩ | ⟨e1, e2, e3, e4⟩
  · rw [h2, e1, e2]; exact List.mem_cons_self
  · refine List.mem_cons_of_mem _ (List.mem_filter.mpr ⟨?_, ?_⟩)
    · have h3 := mem_lcl as L 0 j w e2
      rw [Nat.zero_add] at h3
      rw [h2]; exact h3
    · rw [h2]
      show (!(j == i) && !(j + 1 == i && (trV as w).category == 2)) = true
      rw [trV_cat]
      have g1 : (j == i) = false := beq_eq_false_iff_ne.mpr e1
      have g2 : (j + 1 == i && w.category == 2) = false := by
        cases hx : (j + 1 == i && w.category == 2) with
        | false => rfl
        | true =>
          rw [Bool.and_eq_true] at hx
          exact absurd ⟨eq_of_beq hx.1, eq_of_beq hx.2⟩ e3
      rw [g1, g2]; rfl
theorem stor_sub2 {as : Nat → Nat} {L : Lcs} {i : Nat} {v : Value} (hc : v.category = 2) : ∀ q ∈ lcl as 0 (stor L i v), q ∈ (i, trV as v) :: (lcl as 0 L).filter (fun q => !(q.1 == i) && (!(q.1 == i + 1) && !(q.1 + 1 == i && q.2.category == 2))) := by
  intro q hq
  obtain ⟨j, w, h1, h2⟩ := lcl_mem as _ 0 q hq
  rw [Nat.zero_add] at h2
  rcases lget_stor L i v j w h1 with ⟨e1, e2⟩ | ⟨e1, e2, e3, e4⟩
  · rw [h2, e1, e2]; exact List.mem_cons_self
  · refine List.mem_cons_of_mem _ (List.mem_filter.mpr ⟨?_, ?_⟩)
    · have h3 := mem_lcl as L 0 j w e2
      rw [Nat.zero_add] at h3
      rw [h2]; exact h3
    · rw [h2]
      show (!(j == i) && (!(j == i + 1) && !(j + 1 == i && (trV as w).category == 2))) = true
      rw [trV_cat]
      have g1 : (j == i) = false := beq_eq_false_iff_ne.mpr e1
      have g3 : (j == i + 1) = false := beq_eq_false_iff_ne.mpr fun z => e4 ⟨hc, z⟩
      have g2 : (j + 1 == i && w.category == 2) = false := by
        cases hx : (j + 1 == i && w.category == 2) with
        | false => rfl
        | true =>
          rw [Bool.and_eq_true] at hx
          exact absurd ⟨eq_of_beq hx.1, eq_of_beq hx.2⟩ e3
      rw [g1, g2, g3]; rfl
theorem csum_lg (as : Nat → Nat) : ∀ (av : List Value), (lg_sl (av.map (trV as))).length = csum av := by
  intro av
  induction av with
  | nil => rfl
  | cons v r ih =>
    have h1 : (lg_sl ((v :: r).map (trV as))).length = (lg_sl [trV as v]).length + (lg_sl (r.map (trV as))).length := by
      simp [lg_sl]
    rw [h1, ih]
    show _ = v.category + csum r
    cases v <;> simp [lg_sl, trV, Value.category]
theorem csum_map (as : Nat → Nat) : ∀ (av : List Value), ((av.map (trV as)).map fun v => v.category).sum = csum av := by
  intro av
  induction av with
  | nil => rfl
  | cons v r ih =>
    show (trV as v).category + ((r.map (trV as)).map fun v => v.category).sum = v.category + csum r
    rw [ih, trV_cat]
theorem lcl_rep (as : Nat → Nat) : ∀ (n k : Nat), lcl as k (List.replicate n none) = [] := by
  intro n
  induction n with
  | zero => intro k; rfl
  | succ n ih => intro k; exact ih (k + 1)
theorem entL_sub (as : Nat → Nat) : ∀ (av : List Value) (n k : Nat), ∀ q ∈ lcl as k (entL n av), q ∈ lv_args k (av.map (trV as)) := by
  intro av
  induction av with
  | nil =>
    intro n k q hq
    rw [show entL n [] = List.replicate n none from rfl, lcl_rep] at hq
    cases hq
  | cons v r ih =>
    intro n k q hq
    have hq : q ∈ lcl as k (some v :: (bif v.category == 2 then none :: entL (n - 2) r else entL (n - 1) r)) := hq
    show q ∈ (k, trV as v) :: lv_args (if (trV as v).category = 2 then k + 2 else k + 1) (r.map (trV as))
    rw [trV_cat]
    rcases List.mem_cons.mp hq with h | h
    · rw [h]; exact List.mem_cons_self
    · refine List.mem_cons_of_mem _ ?_
      cases hb : (v.category == 2) with
      | true =>
        rw [hb] at h
        rw [if_pos (eq_of_beq hb)]
        exact ih (n - 2) (k + 2) q h
      | false =>
        rw [hb] at h
        rw [if_neg (fun z => by rw [z] at hb; cases hb)]
        exact ih (n - 1) (k + 1) q h
/-! what the pieces of an instruction's proposition hold -/
theorem o2_inv {op : Int32 → Int32 → Int32} {S : List Value} {K : List Value → Prop} (h : o2 op S K) : ∃ (x y : Int32) (r : List Value), S = .int y :: .int x :: r ∧ K (.int (op x y) :: r) := by
  unfold o2 at h; split at h
  · exact ⟨_, _, _, rfl, h⟩
  · exact h.elim
theorem d2_inv {op : Int32 → Int32 → Int32} {S : List Value} {K : List Value → Prop} (h : d2 op S K) : ∃ (x y : Int32) (r : List Value), S = .int y :: .int x :: r ∧ ¬ y = 0 ∧ K (.int (op x y) :: r) := by
  unfold d2 at h; split at h
  · exact ⟨_, _, _, rfl, h⟩
  · exact h.elim
theorem l2_inv {op : Int64 → Int64 → Int64} {S : List Value} {K : List Value → Prop} (h : l2 op S K) : ∃ (x y : Int64) (r : List Value), S = .long y :: .long x :: r ∧ K (.long (op x y) :: r) := by
  unfold l2 at h; split at h
  · exact ⟨_, _, _, rfl, h⟩
  · exact h.elim
theorem f2_inv {op : UInt64 → UInt64 → UInt64} {S : List Value} {K : List Value → Prop} (h : f2 op S K) : ∃ (x y : UInt64) (r : List Value), S = .double y :: .double x :: r ∧ vf_n64 (op x y) ∧ K (.double (op x y) :: r) := by
  unfold f2 at h; split at h
  · exact ⟨_, _, _, rfl, h⟩
  · exact h.elim
theorem ldI_inv {L : Lcs} {i : Nat} {K : Int32 → Prop} (h : ldI L i K) : ∃ x, lget L i = some (.int x) ∧ K x := by
  unfold ldI at h; split at h
  · exact ⟨_, by assumption, h⟩
  · exact h.elim
theorem ldJ_inv {L : Lcs} {i : Nat} {K : Int64 → Prop} (h : ldJ L i K) : ∃ x, lget L i = some (.long x) ∧ K x := by
  unfold ldJ at h; split at h
  · exact ⟨_, by assumption, h⟩
  · exact h.elim
theorem ldD_inv {L : Lcs} {i : Nat} {K : UInt64 → Prop} (h : ldD L i K) : ∃ x, lget L i = some (.double x) ∧ K x := by
  unfold ldD at h; split at h
  · exact ⟨_, by assumption, h⟩
  · exact h.elim
theorem ldA_inv {L : Lcs} {i : Nat} {K : Nat → Prop} (h : ldA L i K) : ∃ x, lget L i = some (.ref x) ∧ K x := by
  unfold ldA at h; split at h
  · exact ⟨_, by assumption, h⟩
  · exact h.elim
theorem stI_inv {S : List Value} {K : Int32 → List Value → Prop} (h : stI S K) : ∃ x r, S = .int x :: r ∧ K x r := by
  unfold stI at h; split at h
  · exact ⟨_, _, rfl, h⟩
  · exact h.elim
theorem stJ_inv {S : List Value} {K : Int64 → List Value → Prop} (h : stJ S K) : ∃ x r, S = .long x :: r ∧ K x r := by
  unfold stJ at h; split at h
  · exact ⟨_, _, rfl, h⟩
  · exact h.elim
theorem stD_inv {S : List Value} {K : UInt64 → List Value → Prop} (h : stD S K) : ∃ x r, S = .double x :: r ∧ K x r := by
  unfold stD at h; split at h
  · exact ⟨_, _, rfl, h⟩
  · exact h.elim
theorem stA_inv {S : List Value} {K : Nat → List Value → Prop} (h : stA S K) : ∃ x r, S = .ref x :: r ∧ K x r := by
  unfold stA at h; split at h
  · exact ⟨_, _, rfl, h⟩
  · exact h.elim
theorem gtI_inv {M : Mem} {o : Nat} {K : Nat → (Nat → Int32) → Prop} (h : gtI M o K) : ∃ n f, mget M o = some (eI n f) ∧ K n f := by
  unfold gtI at h; split at h
  · exact ⟨_, _, by assumption, h⟩
  · exact h.elim
theorem gtJ_inv {M : Mem} {o : Nat} {K : Nat → (Nat → Int64) → Prop} (h : gtJ M o K) : ∃ n f, mget M o = some (eJ n f) ∧ K n f := by
  unfold gtJ at h; split at h
  · exact ⟨_, _, by assumption, h⟩
  · exact h.elim
theorem gtR_inv {M : Mem} {o : Nat} {K : Nat → (Nat → Option Nat) → Prop} (h : gtR M o K) : ∃ n f, mget M o = some (eR n f) ∧ K n f := by
  unfold gtR at h; split at h
  · exact ⟨_, _, by assumption, h⟩
  · exact h.elim
theorem gtO_inv {M : Mem} {o : Nat} {K : Nat → List Value → Prop} (h : gtO M o K) : ∃ n f, mget M o = some (eO n f) ∧ K n f := by
  unfold gtO at h; split at h
  · exact ⟨_, _, by assumption, h⟩
  · exact h.elim
theorem bif_inv {b : Bool} {P : Prop} (h : bif b then P else False) : b = true ∧ P := by
  cases b with
  | true => exact ⟨rfl, h⟩
  | false => exact False.elim h
theorem cat1_of {v : Value} (h : cat1 v = true) : v.category = 1 := eq_of_beq h
theorem tsw_get {P : Nat → Prop} {pc : Nat} {x : Int} : ∀ (l : List Int) (v : Int) (j : Nat) (o : Int), tsw P pc x l v → l[j]? = some o → x = v + j → P ((pc : Int) + o).toNat := by
  intro l
  induction l with
  | nil => intro v j o _ h; cases h
  | cons a r ih =>
    intro v j o h hj hx
    cases j with
    | zero =>
      have h1 : a = o := Option.some.inj hj
      subst h1
      exact h.1 (by omega)
    | succ j => exact ih (v + 1) j o h.2 hj (by omega)
theorem lsw_get {P : Nat → Prop} {pc : Nat} {x d : Int} : ∀ (l : List (Int × Int)), lsw P pc x d l → P ((pc : Int) + Op.lookupswitch.offset l d x).toNat := by
  intro l
  induction l with
  | nil => intro h; exact h
  | cons a r ih =>
    intro h
    obtain ⟨k, o⟩ := a
    rw [Op.lookupswitch.offset_cons]
    by_cases hx : x = k
    · have h1 := h.1 hx
      rw [if_pos hx.symm]; exact h1
    · rw [if_neg (fun q => hx q.symm)]
      exact ih (h.2 hx)
theorem off_mem {x d : Int} : ∀ (l : List (Int × Int)), Op.lookupswitch.offset l d x = d ∨ Op.lookupswitch.offset l d x ∈ l.map (fun x => x.2) := by
  intro l
  induction l with
  | nil => exact Or.inl rfl
  | cons a r ih =>
    obtain ⟨k, o⟩ := a
    rw [Op.lookupswitch.offset_cons]
    by_cases hx : k = x
    · rw [if_pos hx]; exact Or.inr List.mem_cons_self
    · rw [if_neg hx]
      rcases ih with h | h
      · exact Or.inl h
      · exact Or.inr (List.mem_cons_of_mem _ h)
theorem tgs_of {q : Nat} {a : List Int} (h : tgs q a = true) {o : Int} (ho : o ∈ a) : 0 ≤ (q : Int) + o := of_decide_eq_true (List.all_eq_true.mp h o ho)
theorem wd_mem {p : Nat} {w : Jvm.Cond} (h : wd p w = true) : w ∈ TT := by
  unfold wd at h
  rw [Bool.and_eq_true] at h
  have h1 : lw_tbl[p]? = some w := of_decide_eq_true h.1
  exact List.mem_filter.mpr ⟨List.mem_of_getElem? h1, h.2⟩
theorem vset_map (as : Nat → Nat) (x : Int32) : ∀ (fs : List Value) (j : Nat), (vset fs j (.int x)).map (trV as) = (fs.map (trV as)).set j (.int x) := by
  intro fs
  induction fs with
  | nil => intro j; rfl
  | cons a r ih =>
    intro j
    cases j with
    | zero => rfl
    | succ j => show trV as a :: _ = trV as a :: _; rw [ih]
theorem vget_map (as : Nat → Nat) : ∀ (fs : List Value) (j : Nat) (v : Value), vget fs j = some v → (fs.map (trV as))[j]? = some (trV as v) := by
  intro fs
  induction fs with
  | nil => intro j v h; cases h
  | cons a r ih =>
    intro j v h
    cases j with
    | zero =>
      have h1 : a = v := Option.some.inj h
      subst h1
      rfl
    | succ j => exact ih j v h
theorem vget_lt : ∀ (fs : List Value) (j : Nat), (vget fs j).isSome = true → j < fs.length := by
  intro fs
  induction fs with
  | nil => intro j h; cases h
  | cons a r ih =>
    intro j h
    cases j with
    | zero => exact Nat.succ_pos _
    | succ j => exact Nat.succ_lt_succ (ih j h)
theorem trV_rf (as : Nat → Nat) (o : Option Nat) : va_rf (o.map as) = trV as (va_rf o) := by cases o <;> rfl
theorem cls_w : ∀ r ∈ vwCl, ∀ w ∈ u_ws r.1 r.2.1 r.2.2, w ∈ TT := by
  have h : (vwCl.all fun r => (u_ws r.1 r.2.1 r.2.2).all fun w => decide (w ∈ lw_tbl) && goodWord w) = true := by decide +kernel
  intro r hr w hw
  have h1 := List.all_eq_true.mp (List.all_eq_true.mp h r hr) w hw
  rw [Bool.and_eq_true] at h1
  exact List.mem_filter.mpr ⟨of_decide_eq_true h1.1, h1.2⟩
theorem cls_t : ∀ r ∈ vwCl, ∃ ty0 : Nat → FieldType, (∀ k, k < r.2.2 → parseFieldDescriptor (r.2.1 k).2.2.1 = some (ty0 k)) ∧ ∀ a, a < r.2.2 → ∀ b, b < r.2.2 → a ≠ b → (r.2.1 a).2.1 ≠ (r.2.1 b).2.1 := by
  intro r hr
  rcases List.mem_cons.mp hr with rfl | hr
  · exact ⟨tyX0, tyX0_ok, nmX0⟩
  rcases List.mem_cons.mp hr with rfl | hr
  · exact ⟨tyX1, tyX1_ok, nmX1⟩
  rcases List.mem_cons.mp hr with rfl | hr
  · exact ⟨tyX2, tyX2_ok, nmX2⟩
  rcases List.mem_cons.mp hr with rfl | hr
  · exact ⟨tyX3, tyX3_ok, nmX3⟩
  rcases List.mem_cons.mp hr with rfl | hr
  · exact ⟨tyX4, tyX4_ok, nmX4⟩
  rcases List.mem_cons.mp hr with rfl | hr
  · exact ⟨tyX5, tyX5_ok, nmX5⟩
  cases hr
