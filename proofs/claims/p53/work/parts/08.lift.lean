/-! a run in a small memory is a run in any memory that holds it: the cells renamed -/
def rnE (f : Nat → Nat) : Ent → Ent
  | .inl x => .inl x
  | .inr (.inl x) => .inr (.inl x)
  | .inr (.inr (.inl (n, g))) => .inr (.inr (.inl (n, fun j => (g j).map f)))
  | .inr (.inr (.inr (ci, fs))) => .inr (.inr (.inr (ci, fs.map (trV f))))
def rnR (f : Nat → Nat) : Res → Res
  | .inl v => .inl (v.map (trV f))
  | .inr x => .inr x
abbrev rnL (f : Nat → Nat) (L : Lcs) : Lcs := L.map (Option.map (trV f))
def putb (f : Nat → Nat) : Nat → Mem → Mem → Mem
  | _, [], M => M
  | k, e :: m, M => mset (putb f (k + 1) m M) (f k) (rnE f e)
theorem mget_mset : ∀ (M : Mem) (i j : Nat) (e : Ent), mget (mset M i e) j = if j = i ∧ i < M.length then some e else mget M j := by
  intro M
  induction M with
  | nil => intro i j e; rw [if_neg (fun q => Nat.not_lt_zero _ q.2)]; rfl
  | cons a r ih =>
    intro i j e
    cases i with
    | zero =>
      cases j with
      | zero => rw [if_pos ⟨rfl, Nat.succ_pos _⟩]; rfl
      | succ j => rw [if_neg (fun q => by cases q.1)]; rfl
    | succ i =>
      cases j with
      | zero => rw [if_neg (fun q => by cases q.1)]; rfl
      | succ j =>
        show mget (mset r i e) j = _
        rw [ih]
        by_cases h : j = i ∧ i < r.length
        · rw [if_pos h, if_pos ⟨by rw [h.1], Nat.succ_lt_succ h.2⟩]
        · rw [if_neg h, if_neg (fun q => h ⟨Nat.succ.inj q.1, Nat.lt_of_succ_lt_succ q.2⟩)]; rfl
theorem mget_none : ∀ (M : Mem) (i : Nat), mget M i = none → M.length ≤ i := by
  intro M
  induction M with
  | nil => intro i _; exact Nat.zero_le _
  | cons a r ih =>
    intro i h
    cases i with
    | zero => cases h
    | succ i => exact Nat.succ_le_succ (ih i h)
theorem mget_some {M : Mem} {i : Nat} (h : i < M.length) : ∃ e, mget M i = some e := by
  cases hm : mget M i with
  | some e => exact ⟨e, rfl⟩
  | none => exact absurd (mget_none M i hm) (Nat.not_le.mpr h)
theorem mem_ext : ∀ (M N : Mem), M.length = N.length → (∀ i, mget M i = mget N i) → M = N := by
  intro M
  induction M with
  | nil =>
    intro N h _
    cases N with
    | nil => rfl
    | cons b s => cases h
  | cons a r ih =>
    intro N h hg
    cases N with
    | nil => cases h
    | cons b s =>
      have h0 : a = b := Option.some.inj (hg 0)
      rw [h0, ih s (Nat.succ.inj h) (fun i => hg (i + 1))]
theorem putb_len (f : Nat → Nat) : ∀ (m : Mem) (k : Nat) (M : Mem), (putb f k m M).length = M.length := by
  intro m
  induction m with
  | nil => intro k M; rfl
  | cons e m ih => intro k M; show (mset _ _ _).length = _; rw [mset_len, ih]
def injK (f : Nat → Nat) (k n : Nat) : Prop := ∀ i j, i < n → j < n → f (k + i) = f (k + j) → i = j
theorem injK.tail {f : Nat → Nat} {k n : Nat} (h : injK f k (n + 1)) : injK f (k + 1) n := fun i j hi hj hf => by
  have h1 : k + (i + 1) = k + 1 + i := by omega
  have h2 : k + (j + 1) = k + 1 + j := by omega
  have := h (i + 1) (j + 1) (by omega) (by omega) (by rw [h1, h2]; exact hf)
  omega
theorem putb_out (f : Nat → Nat) : ∀ (m : Mem) (k : Nat) (M : Mem) (j : Nat), (∀ i, i < m.length → ¬ f (k + i) = j) → mget (putb f k m M) j = mget M j := by
  intro m
  induction m with
  | nil => intro k M j _; rfl
  | cons e m ih =>
    intro k M j h
    show mget (mset _ _ _) j = _
    rw [mget_mset, if_neg (fun q => h 0 (Nat.succ_pos _) q.1.symm)]
    exact ih (k + 1) M j (fun i hi => by
      have h1 : k + 1 + i = k + (i + 1) := by omega
      rw [h1]; exact h (i + 1) (Nat.succ_lt_succ hi))
theorem putb_get (f : Nat → Nat) : ∀ (m : Mem) (k : Nat) (M : Mem), injK f k m.length → (∀ i, i < m.length → f (k + i) < M.length) → ∀ (i : Nat) (e : Ent), mget m i = some e → mget (putb f k m M) (f (k + i)) = some (rnE f e) := by
  intro m
  induction m with
  | nil => intro k M _ _ i e h; cases h
  | cons a m ih =>
    intro k M hi hb i e h
    show mget (mset (putb f (k + 1) m M) (f k) (rnE f a)) (f (k + i)) = _
    rw [mget_mset]
    cases i with
    | zero =>
      have h0 : a = e := Option.some.inj h
      rw [if_pos ⟨rfl, by rw [putb_len]; exact hb 0 (Nat.succ_pos _)⟩, h0]
    | succ i =>
      have hl : i < m.length := mget_lt h
      rw [if_neg (fun q => by
        have := hi (i + 1) 0 (Nat.succ_lt_succ hl) (Nat.succ_pos _) q.1
        cases this)]
      have h1 : k + (i + 1) = k + 1 + i := by omega
      rw [h1]
      exact ih (k + 1) M hi.tail (fun j hj => by
        have h2 : k + 1 + j = k + (j + 1) := by omega
        rw [h2]; exact hb (j + 1) (Nat.succ_lt_succ hj)) i e h
/-- two memories that hold the same at every place that is renamed to, and elsewhere -/
theorem putb_eq (f : Nat → Nat) {m M N : Mem} (hi : injK f 0 m.length) (hb : ∀ i, i < m.length → f (0 + i) < M.length) (hl : N.length = M.length) (hin : ∀ i e, mget m i = some e → mget N (f (0 + i)) = some (rnE f e)) (hout : ∀ j, (∀ i, i < m.length → ¬ f (0 + i) = j) → mget N j = mget M j) : putb f 0 m M = N := by
  refine mem_ext _ _ ((putb_len f m 0 M).trans hl.symm) fun j => ?_
  by_cases h : ∃ i, i < m.length ∧ f (0 + i) = j
  · obtain ⟨i, h1, h2⟩ := h
    obtain ⟨e, he⟩ := mget_some h1
    rw [← h2, putb_get f m 0 M hi hb i e he, hin i e he]
  · have h : ∀ i, i < m.length → ¬ f (0 + i) = j := fun i h1 h2 => h ⟨i, h1, h2⟩
    rw [putb_out f m 0 M j h, hout j h]
theorem putb_self (f : Nat → Nat) {m M : Mem} (hi : injK f 0 m.length) (hb : ∀ i, i < m.length → f (0 + i) < M.length) (h : ∀ i e, mget m i = some e → mget M (f (0 + i)) = some (rnE f e)) : putb f 0 m M = M := putb_eq f hi hb rfl h (fun _ _ => rfl)
theorem putb_set (f : Nat → Nat) {m M : Mem} (hi : injK f 0 m.length) (hb : ∀ i, i < m.length → f (0 + i) < M.length) {i : Nat} (e : Ent) (h : i < m.length) : putb f 0 (mset m i e) M = mset (putb f 0 m M) (f (0 + i)) (rnE f e) := by
  refine putb_eq f (by rw [mset_len]; exact hi) (by rw [mset_len]; exact hb) (by rw [mset_len, putb_len]) (fun j x hj => ?_) (fun j hj => ?_)
  · rw [mget_mset] at hj
    rw [mget_mset]
    by_cases hji : j = i
    · subst hji
      rw [if_pos ⟨rfl, h⟩] at hj
      rw [if_pos ⟨rfl, by rw [putb_len]; exact hb j h⟩, Option.some.inj hj]
    · rw [if_neg (fun q => hji q.1)] at hj
      have hjl : j < m.length := mget_lt hj
      rw [if_neg (fun q => hji (hi j i hjl h q.1))]
      exact putb_get f m 0 M hi hb j x hj
  · rw [mset_len] at hj
    rw [mget_mset, if_neg (fun q => hj i h q.1.symm)]
    exact putb_out f m 0 M j hj
theorem putb_over (f : Nat → Nat) {m m1 M : Mem} (hl : m1.length = m.length) (hi : injK f 0 m.length) (hb : ∀ i, i < m.length → f (0 + i) < M.length) : putb f 0 m1 (putb f 0 m M) = putb f 0 m1 M := by
  refine putb_eq f (by rw [hl]; exact hi) (fun i h => by rw [putb_len]; exact hb i (by rw [← hl]; exact h)) (by rw [putb_len, putb_len]) (fun j x hj => putb_get f m1 0 M (by rw [hl]; exact hi) (fun i h => hb i (by rw [← hl]; exact h)) j x hj) (fun j hj => ?_)
  rw [putb_out f m1 0 M j hj, putb_out f m 0 M j (fun i h => hj i (by rw [hl]; exact h))]
theorem rn_lget (f : Nat → Nat) : ∀ (L : Lcs) (i : Nat), lget (rnL f L) i = (lget L i).map (trV f) := by
  intro L
  induction L with
  | nil => intro i; rfl
  | cons a r ih =>
    intro i
    cases i with
    | zero => rfl
    | succ i => exact ih i
theorem rn_kil (f : Nat → Nat) (o : Option Value) : kil (o.map (trV f)) = (kil o).map (trV f) := by
  cases o with
  | none => rfl
  | some w => cases w <;> rfl
def knx : Lcs → Lcs
  | [] => []
  | _ :: r => none :: r
theorem stor_z (a : Option Value) (r : Lcs) (v : Value) : stor (a :: r) 0 v = some v :: cond (v.category == 2) (knx r) r := by
  cases r <;> rfl
theorem rn_stor (f : Nat → Nat) (v : Value) : ∀ (L : Lcs) (i : Nat), stor (rnL f L) i (trV f v) = rnL f (stor L i v) := by
  intro L
  induction L with
  | nil => intro i; rfl
  | cons a r ih =>
    intro i
    match i with
    | 0 =>
      show stor (a.map (trV f) :: rnL f r) 0 (trV f v) = rnL f (stor (a :: r) 0 v)
      rw [stor_z, stor_z, trV_cat]
      show some (trV f v) :: cond (v.category == 2) (knx (rnL f r)) (rnL f r) = some (trV f v) :: rnL f (cond (v.category == 2) (knx r) r)
      cases (v.category == 2) with
      | false => rfl
      | true => cases r <;> rfl
    | 1 =>
      show kil (a.map (trV f)) :: stor (rnL f r) 0 (trV f v) = (kil a).map (trV f) :: rnL f (stor r 0 v)
      rw [rn_kil, ih]
    | n + 2 =>
      show a.map (trV f) :: stor (rnL f r) (n + 1) (trV f v) = a.map (trV f) :: rnL f (stor r (n + 1) v)
      rw [ih]
theorem rn_mkL (f : Nat → Nat) : ∀ (L : Lcs) (k : Nat), mkL k (rnL f L) = rnL f (mkL k L) := by
  intro L
  induction L with
  | nil => intro k; rfl
  | cons a r ih =>
    intro k
    show (bif k % 2 == 1 then a.map (trV f) else none) :: mkL (k / 2) (rnL f r) = (bif k % 2 == 1 then a else none).map (trV f) :: rnL f (mkL (k / 2) r)
    rw [ih]
    cases (k % 2 == 1) <;> rfl
theorem rn_csum (f : Nat → Nat) : ∀ (av : List Value), csum (av.map (trV f)) = csum av := by
  intro av
  induction av with
  | nil => rfl
  | cons v r ih => show (trV f v).category + csum (r.map (trV f)) = _; rw [trV_cat, ih]; rfl
theorem rn_rep (f : Nat → Nat) : ∀ n : Nat, rnL f (List.replicate n none) = List.replicate n none := by
  intro n
  induction n with
  | zero => rfl
  | succ n ih => show none :: rnL f (List.replicate n none) = none :: List.replicate n none; rw [ih]
theorem rn_entL (f : Nat → Nat) : ∀ (av : List Value) (n : Nat), entL n (av.map (trV f)) = rnL f (entL n av) := by
  intro av
  induction av with
  | nil => intro n; exact (rn_rep f n).symm
  | cons v r ih =>
    intro n
    show some (trV f v) :: (bif (trV f v).category == 2 then none :: entL (n - 2) (r.map (trV f)) else entL (n - 1) (r.map (trV f))) = some (trV f v) :: rnL f (bif v.category == 2 then none :: entL (n - 2) r else entL (n - 1) r)
    rw [trV_cat]
    cases (v.category == 2) with
    | true => show some (trV f v) :: none :: entL (n - 2) (r.map (trV f)) = some (trV f v) :: none :: rnL f (entL (n - 2) r); rw [ih]
    | false => show some (trV f v) :: entL (n - 1) (r.map (trV f)) = some (trV f v) :: rnL f (entL (n - 1) r); rw [ih]
theorem rn_vget (f : Nat → Nat) : ∀ (fs : List Value) (j : Nat), vget (fs.map (trV f)) j = (vget fs j).map (trV f) := by
  intro fs
  induction fs with
  | nil => intro j; rfl
  | cons a r ih =>
    intro j
    cases j with
    | zero => rfl
    | succ j => exact ih j
theorem rn_vset (f : Nat → Nat) (v : Value) : ∀ (fs : List Value) (j : Nat), vset (fs.map (trV f)) j (trV f v) = (vset fs j v).map (trV f) := by
  intro fs
  induction fs with
  | nil => intro j; rfl
  | cons a r ih =>
    intro j
    cases j with
    | zero => rfl
    | succ j => show trV f a :: _ = trV f a :: _; rw [ih]
section LIFT
variable {f : Nat → Nat} {n : Nat} {M : Mem} {call : Nat → List Value → Mem → Res → Mem → Prop} {ret ret' : Res → Mem → Prop} {rt : Option FieldType} {P P' : Nat → Lcs → List Value → Mem → Prop} {K K' : Lcs → List Value → Mem → Prop} {pc a : Nat} {L : Lcs} {S : List Value} {m : Mem}
theorem lf_ldI {i : Nat} {X X' : Int32 → Prop} (h : ldI L i X) (hx : ∀ x, X x → X' x) : ldI (rnL f L) i X' := by
  obtain ⟨x, h1, h2⟩ := ldI_inv h
  unfold ldI; rw [rn_lget, h1]; exact hx _ h2
theorem lf_ldJ {i : Nat} {X X' : Int64 → Prop} (h : ldJ L i X) (hx : ∀ x, X x → X' x) : ldJ (rnL f L) i X' := by
  obtain ⟨x, h1, h2⟩ := ldJ_inv h
  unfold ldJ; rw [rn_lget, h1]; exact hx _ h2
theorem lf_ldD {i : Nat} {X X' : UInt64 → Prop} (h : ldD L i X) (hx : ∀ x, X x → X' x) : ldD (rnL f L) i X' := by
  obtain ⟨x, h1, h2⟩ := ldD_inv h
  unfold ldD; rw [rn_lget, h1]; exact hx _ h2
theorem lf_ldA {i : Nat} {X X' : Nat → Prop} (h : ldA L i X) (hx : ∀ x, X x → X' (f x)) : ldA (rnL f L) i X' := by
  obtain ⟨x, h1, h2⟩ := ldA_inv h
  unfold ldA; rw [rn_lget, h1]; exact hx _ h2
theorem lf_stI {X X' : Int32 → List Value → Prop} (h : stI S X) (hx : ∀ x r, X x r → X' x (r.map (trV f))) : stI (S.map (trV f)) X' := by
  obtain ⟨x, r, rfl, h2⟩ := stI_inv h
  exact hx _ _ h2
theorem lf_stJ {X X' : Int64 → List Value → Prop} (h : stJ S X) (hx : ∀ x r, X x r → X' x (r.map (trV f))) : stJ (S.map (trV f)) X' := by
  obtain ⟨x, r, rfl, h2⟩ := stJ_inv h
  exact hx _ _ h2
theorem lf_stD {X X' : UInt64 → List Value → Prop} (h : stD S X) (hx : ∀ x r, X x r → X' x (r.map (trV f))) : stD (S.map (trV f)) X' := by
  obtain ⟨x, r, rfl, h2⟩ := stD_inv h
  exact hx _ _ h2
theorem lf_stA {X X' : Nat → List Value → Prop} (h : stA S X) (hx : ∀ x r, X x r → X' (f x) (r.map (trV f))) : stA (S.map (trV f)) X' := by
  obtain ⟨x, r, rfl, h2⟩ := stA_inv h
  exact hx _ _ h2
theorem lf_o2 {op : Int32 → Int32 → Int32} {X X' : List Value → Prop} (h : o2 op S X) (hx : ∀ r, X r → X' (r.map (trV f))) : o2 op (S.map (trV f)) X' := by
  obtain ⟨x, y, r, rfl, h2⟩ := o2_inv h
  exact hx _ h2
theorem lf_d2 {op : Int32 → Int32 → Int32} {X X' : List Value → Prop} (h : d2 op S X) (hx : ∀ r, X r → X' (r.map (trV f))) : d2 op (S.map (trV f)) X' := by
  obtain ⟨x, y, r, rfl, h1, h2⟩ := d2_inv h
  exact ⟨h1, hx _ h2⟩
theorem lf_l2 {op : Int64 → Int64 → Int64} {X X' : List Value → Prop} (h : l2 op S X) (hx : ∀ r, X r → X' (r.map (trV f))) : l2 op (S.map (trV f)) X' := by
  obtain ⟨x, y, r, rfl, h2⟩ := l2_inv h
  exact hx _ h2
theorem lf_f2 {op : UInt64 → UInt64 → UInt64} {X X' : List Value → Prop} (h : f2 op S X) (hx : ∀ r, X r → X' (r.map (trV f))) : f2 op (S.map (trV f)) X' := by
  obtain ⟨x, y, r, rfl, h1, h2⟩ := f2_inv h
  exact ⟨h1, hx _ h2⟩
theorem lf_gtI (hi : injK f 0 m.length) (hb : ∀ i, i < m.length → f (0 + i) < M.length) {o : Nat} {X X' : Nat → (Nat → Int32) → Prop} (h : gtI m o X) (hx : ∀ n g, mget m o = some (eI n g) → X n g → X' n g) : gtI (putb f 0 m M) (f o) X' := by
  obtain ⟨n, g, h1, h2⟩ := gtI_inv h
  have h3 := putb_get f m 0 M hi hb o _ h1
  rw [Nat.zero_add] at h3
  unfold gtI; rw [h3]; exact hx _ _ h1 h2
theorem lf_gtJ (hi : injK f 0 m.length) (hb : ∀ i, i < m.length → f (0 + i) < M.length) {o : Nat} {X X' : Nat → (Nat → Int64) → Prop} (h : gtJ m o X) (hx : ∀ n g, mget m o = some (eJ n g) → X n g → X' n g) : gtJ (putb f 0 m M) (f o) X' := by
  obtain ⟨n, g, h1, h2⟩ := gtJ_inv h
  have h3 := putb_get f m 0 M hi hb o _ h1
  rw [Nat.zero_add] at h3
  unfold gtJ; rw [h3]; exact hx _ _ h1 h2
theorem lf_gtR (hi : injK f 0 m.length) (hb : ∀ i, i < m.length → f (0 + i) < M.length) {o : Nat} {X X' : Nat → (Nat → Option Nat) → Prop} (h : gtR m o X) (hx : ∀ n g, mget m o = some (eR n g) → X n g → X' n (fun j => (g j).map f)) : gtR (putb f 0 m M) (f o) X' := by
  obtain ⟨n, g, h1, h2⟩ := gtR_inv h
  have h3 := putb_get f m 0 M hi hb o _ h1
  rw [Nat.zero_add] at h3
  unfold gtR; rw [h3]; exact hx _ _ h1 h2
theorem lf_gtO (hi : injK f 0 m.length) (hb : ∀ i, i < m.length → f (0 + i) < M.length) {o : Nat} {X X' : Nat → List Value → Prop} (h : gtO m o X) (hx : ∀ n g, mget m o = some (eO n g) → X n g → X' n (g.map (trV f))) : gtO (putb f 0 m M) (f o) X' := by
  obtain ⟨n, g, h1, h2⟩ := gtO_inv h
  have h3 := putb_get f m 0 M hi hb o _ h1
  rw [Nat.zero_add] at h3
  unfold gtO; rw [h3]; exact hx _ _ h1 h2
theorem lf_tsw {X X' : Nat → Prop} (hx : ∀ t, X t → X' t) {x : Int} : ∀ (l : List Int) (v : Int), tsw X pc x l v → tsw X' pc x l v := tsw_mono hx
theorem lf_clr {k : Nat} {av : List Value} {X X' : List Value → Mem → Prop} (hC : ∀ k av m r m1, call k av m r m1 → m.length = n → m1.length = n ∧ call k (av.map (trV f)) (putb f 0 m M) (rnR f r) (putb f 0 m1 M)) (hret : ∀ r m1, ret r m1 → m1.length = n → ret' (rnR f r) (putb f 0 m1 M))
    (hn : m.length = n) (h : clr call ret k av m X) (hx : ∀ v m1, X v m1 → m1.length = n → X' (v.map (trV f)) (putb f 0 m1 M)) : clr call ret' k (av.map (trV f)) (putb f 0 m M) X' := by
  rcases h with ⟨v, m1, h1, h2⟩ | ⟨x, m1, h1, h2⟩
  · obtain ⟨g1, g2⟩ := hC _ _ _ _ _ h1 hn
    refine Or.inl ⟨v.map (trV f), putb f 0 m1 M, g2, ?_⟩
    have h3 := hx _ _ h2 g1
    cases v <;> exact h3
  · obtain ⟨g1, g2⟩ := hC _ _ _ _ _ h1 hn
    exact Or.inr ⟨x, putb f 0 m1 M, g2, hret _ _ h2 g1⟩
set_option maxHeartbeats 4000000 in
theorem sI_lift {i : Instr} (hi : injK f 0 n) (hb : ∀ i, i < n → f (0 + i) < M.length) (hC : ∀ k av m r m1, call k av m r m1 → m.length = n → m1.length = n ∧ call k (av.map (trV f)) (putb f 0 m M) (rnR f r) (putb f 0 m1 M)) (hret : ∀ r m1, ret r m1 → m1.length = n → ret' (rnR f r) (putb f 0 m1 M))
    (hP : ∀ pc L S m1, P pc L S m1 → m1.length = n → P' pc (rnL f L) (S.map (trV f)) (putb f 0 m1 M)) (hK : ∀ L S m1, K L S m1 → m1.length = n → K' (rnL f L) (S.map (trV f)) (putb f 0 m1 M)) (hn : m.length = n) (h : sI call ret rt P pc a i L S m K) : sI call ret' rt P' pc a i (rnL f L) (S.map (trV f)) (putb f 0 m M) K' := by
  have him : injK f 0 m.length := by rw [hn]; exact hi
  have hbm : ∀ i, i < m.length → f (0 + i) < M.length := fun i h => hb i (by rw [← hn]; exact h)
  have hPm : ∀ pc k L S m1, P pc (mkL k L) S m1 → m1.length = n → P' pc (mkL k (rnL f L)) (S.map (trV f)) (putb f 0 m1 M) := fun pc k L S m1 z1 z2 => by
    rw [rn_mkL]; exact hP _ _ _ _ z1 z2
  have hst : ∀ (L : Lcs) (i : Nat) (v : Value) (S : List Value) (m1 : Mem), K (stor L i v) S m1 → m1.length = n → K' (stor (rnL f L) i (trV f v)) (S.map (trV f)) (putb f 0 m1 M) := fun L i v S m1 z1 z2 => by
    rw [rn_stor]; exact hK _ _ _ z1 z2
  have hms : ∀ (o : Nat) (e : Ent) (L : Lcs) (S : List Value), o < m.length → K L S (mset m o e) → K' (rnL f L) (S.map (trV f)) (mset (putb f 0 m M) (f o) (rnE f e)) := fun o e L S ho z => by
    have h1 := putb_set f him hbm e ho
    rw [Nat.zero_add] at h1
    rw [← h1]
    exact hK _ _ _ z (by rw [mset_len]; exact hn)
  cases i
  case nop => exact hPm _ _ _ _ _ h hn
  case iconst x => exact hK _ _ _ h hn
  case bipush x => exact hK _ _ _ h hn
  case sipush x => exact hK _ _ _ h hn
  case lconst x => exact hK _ _ _ h hn
  case ldc x => exact bif_mono (b := a == 0) (fun z => z) (fun z => hK _ _ _ z hn) h
  case ldc_w x => exact bif_mono (b := a == 0) (fun z => z) (fun z => hK _ _ _ z hn) h
  case ldc2_w x => exact bif_mono (b := a % 2 == 0) (fun z => hK _ _ _ z hn) (fun z => hK _ _ _ z hn) h
  case dconst x => exact bif_mono (b := x.val == 0) (fun z => hK _ _ _ z hn) (fun z => hK _ _ _ z hn) h
  case iload_n x => exact lf_ldI h (fun _ z => hK _ _ _ z hn)
  case iload x => exact lf_ldI h (fun _ z => hK _ _ _ z hn)
  case istore_n x => exact lf_stI h (fun x r z => hst _ _ (.int x) _ _ z hn)
  case istore x => exact lf_stI h (fun x r z => hst _ _ (.int x) _ _ z hn)
  case lload_n x => exact lf_ldJ h (fun _ z => hK _ _ _ z hn)
  case lload x => exact lf_ldJ h (fun _ z => hK _ _ _ z hn)
  case lstore_n x => exact lf_stJ h (fun x r z => hst _ _ (.long x) _ _ z hn)
  case lstore x => exact lf_stJ h (fun x r z => hst _ _ (.long x) _ _ z hn)
  case dload_n x => exact lf_ldD h (fun _ z => hK _ _ _ z hn)
  case dload x => exact lf_ldD h (fun _ z => hK _ _ _ z hn)
  case dstore_n x => exact lf_stD h (fun x r z => hst _ _ (.double x) _ _ z hn)
  case dstore x => exact lf_stD h (fun x r z => hst _ _ (.double x) _ _ z hn)
  case aload_n x => exact lf_ldA h (fun _ z => hK _ _ _ z hn)
  case aload x => exact lf_ldA h (fun _ z => hK _ _ _ z hn)
  case astore_n x => exact lf_stA h (fun x r z => hst _ _ (.ref x) _ _ z hn)
  case astore x => exact lf_stA h (fun x r z => hst _ _ (.ref x) _ _ z hn)
  case iinc x y => exact lf_ldI h (fun x z => hst _ _ (.int (x + cst y)) _ _ z hn)
  case dup =>
    cases S with
    | nil => exact h
    | cons v r =>
      show (bif cat1 (trV f v) then _ else False)
      have e1 : cat1 (trV f v) = cat1 v := by unfold cat1; rw [trV_cat]
      rw [e1]
      exact bif_mono (b := cat1 v) (fun z => hK _ _ _ z hn) (fun z => z) h
  case pop =>
    cases S with
    | nil => exact h
    | cons v r =>
      show (bif cat1 (trV f v) then _ else False)
      have e1 : cat1 (trV f v) = cat1 v := by unfold cat1; rw [trV_cat]
      rw [e1]
      exact bif_mono (b := cat1 v) (fun z => hK _ _ _ z hn) (fun z => z) h
  case dup2 =>
    match S, h with
    | [], h => exact h
    | [_], h => exact h
    | v :: w :: r, h =>
      show (bif cat1 (trV f v) && cat1 (trV f w) then _ else False)
      have e1 : cat1 (trV f v) = cat1 v := by unfold cat1; rw [trV_cat]
      have e2 : cat1 (trV f w) = cat1 w := by unfold cat1; rw [trV_cat]
      rw [e1, e2]
      exact bif_mono (b := cat1 v && cat1 w) (fun z => hK _ _ _ z hn) (fun z => z) h
  case iadd => exact lf_o2 (X := fun S' => K L S' m) (X' := fun S' => K' (rnL f L) S' (putb f 0 m M)) h (fun _ z => hK _ _ _ z hn)
  case isub => exact lf_o2 (X := fun S' => K L S' m) (X' := fun S' => K' (rnL f L) S' (putb f 0 m M)) h (fun _ z => hK _ _ _ z hn)
  case imul => exact lf_o2 (X := fun S' => K L S' m) (X' := fun S' => K' (rnL f L) S' (putb f 0 m M)) h (fun _ z => hK _ _ _ z hn)
  case iand => exact lf_o2 (X := fun S' => K L S' m) (X' := fun S' => K' (rnL f L) S' (putb f 0 m M)) h (fun _ z => hK _ _ _ z hn)
  case ior => exact lf_o2 (X := fun S' => K L S' m) (X' := fun S' => K' (rnL f L) S' (putb f 0 m M)) h (fun _ z => hK _ _ _ z hn)
  case ixor => exact lf_o2 (X := fun S' => K L S' m) (X' := fun S' => K' (rnL f L) S' (putb f 0 m M)) h (fun _ z => hK _ _ _ z hn)
  case ishl => exact lf_o2 (X := fun S' => K L S' m) (X' := fun S' => K' (rnL f L) S' (putb f 0 m M)) h (fun _ z => hK _ _ _ z hn)
  case ishr => exact lf_o2 (X := fun S' => K L S' m) (X' := fun S' => K' (rnL f L) S' (putb f 0 m M)) h (fun _ z => hK _ _ _ z hn)
  case iushr => exact lf_o2 (X := fun S' => K L S' m) (X' := fun S' => K' (rnL f L) S' (putb f 0 m M)) h (fun _ z => hK _ _ _ z hn)
  case idiv => exact lf_d2 (X := fun S' => K L S' m) (X' := fun S' => K' (rnL f L) S' (putb f 0 m M)) h (fun _ z => hK _ _ _ z hn)
  case irem => exact lf_d2 (X := fun S' => K L S' m) (X' := fun S' => K' (rnL f L) S' (putb f 0 m M)) h (fun _ z => hK _ _ _ z hn)
  case ladd => exact lf_l2 (X := fun S' => K L S' m) (X' := fun S' => K' (rnL f L) S' (putb f 0 m M)) h (fun _ z => hK _ _ _ z hn)
  case lsub => exact lf_l2 (X := fun S' => K L S' m) (X' := fun S' => K' (rnL f L) S' (putb f 0 m M)) h (fun _ z => hK _ _ _ z hn)
  case lmul => exact lf_l2 (X := fun S' => K L S' m) (X' := fun S' => K' (rnL f L) S' (putb f 0 m M)) h (fun _ z => hK _ _ _ z hn)
  case lor => exact lf_l2 (X := fun S' => K L S' m) (X' := fun S' => K' (rnL f L) S' (putb f 0 m M)) h (fun _ z => hK _ _ _ z hn)
  case lshl => exact lf_stI h (fun _ _ z => lf_stJ z (fun _ _ z => hK _ _ _ z hn))
  case ddiv => exact lf_f2 (X := fun S' => K L S' m) (X' := fun S' => K' (rnL f L) S' (putb f 0 m M)) h (fun _ z => hK _ _ _ z hn)
  case dmul => exact lf_f2 (X := fun S' => K L S' m) (X' := fun S' => K' (rnL f L) S' (putb f 0 m M)) h (fun _ z => hK _ _ _ z hn)
  case dsub => exact lf_f2 (X := fun S' => K L S' m) (X' := fun S' => K' (rnL f L) S' (putb f 0 m M)) h (fun _ z => hK _ _ _ z hn)
  case i2l => exact lf_stI h (fun _ _ z => hK _ _ _ z hn)
  case i2d => exact lf_stI h (fun _ _ z => hK _ _ _ z hn)
  case d2l => exact lf_stD h (fun _ _ z => hK _ _ _ z hn)
  case dcmp x => exact lf_stD h (fun _ _ z => lf_stD z (fun _ _ z => hK _ _ _ z hn))
  case lcmp => exact lf_stJ h (fun _ _ z => lf_stJ z (fun _ _ z => hK _ _ _ z hn))
  case ifCond x y => exact lf_stI h (fun _ _ z => ⟨fun q => hPm _ _ _ _ _ (z.1 q) hn, fun q => hK _ _ _ (z.2 q) hn⟩)
  case if_icmp x y => exact lf_stI h (fun _ _ z => lf_stI z (fun _ _ z => ⟨fun q => hPm _ _ _ _ _ (z.1 q) hn, fun q => hK _ _ _ (z.2 q) hn⟩))
  case goto x => exact hPm _ _ _ _ _ h hn
  case ifnull x =>
    match S, h with
    | .ref _ :: r, h => exact hK _ _ _ h hn
    | .null :: r, h => exact hPm _ _ _ _ _ h hn
  case ifnonnull x =>
    match S, h with
    | .ref _ :: r, h => exact hPm _ _ _ _ _ h hn
    | .null :: r, h => exact hK _ _ _ h hn
  case tableswitch x y z w => exact lf_stI h (fun _ _ z => ⟨fun q => hPm _ _ _ _ _ (z.1 q) hn, tsw_mono (fun _ q => hPm _ _ _ _ _ q hn) _ _ z.2⟩)
  case lookupswitch x y => exact lf_stI h (fun _ _ z => lsw_mono (fun _ q => hPm _ _ _ _ _ q hn) _ z)
  case getfield ix =>
    refine lf_stA h (fun o r z => lf_gtO him hbm z (fun ci fs _ z => bif_mono (b := ci == a / 32) (fun z => ?_) (fun z => z) z))
    rw [rn_vget]
    cases hv : vget fs (a % 32) with
    | none => rw [hv] at z; exact z
    | some v => rw [hv] at z; exact hK _ _ _ z hn
  case putfield ix =>
    match S, h with
    | .int x :: .ref o :: r, h =>
      refine lf_gtO him hbm h (fun ci fs hm z => ?_)
      have e1 : (vget (fs.map (trV f)) (a % 32)).isSome = (vget fs (a % 32)).isSome := by rw [rn_vget]; cases vget fs (a % 32) <;> rfl
      rw [e1]
      refine bif_mono (b := ci == a / 32 && (vget fs (a % 32)).isSome) (fun z => ⟨z.1, ?_⟩) (fun z => z) z
      have e2 : eO ci (vset (fs.map (trV f)) (a % 32) (.int x)) = rnE f (eO ci (vset fs (a % 32) (.int x))) := by
        show Sum.inr (Sum.inr (Sum.inr (ci, _))) = Sum.inr (Sum.inr (Sum.inr (ci, _)))
        rw [← rn_vset]; rfl
      rw [e2]
      exact hms _ _ _ _ (mget_lt hm) z.2
  case arraylength =>
    refine lf_stA h (fun o r z => ?_)
    have hg : ∀ e, mget m o = some e → mget (putb f 0 m M) (f o) = some (rnE f e) := fun e he => by
      have h3 := putb_get f m 0 M him hbm o _ he
      rwa [Nat.zero_add] at h3
    split at z
    · rename_i hm; rw [hg _ hm]; exact hK _ _ _ z hn
    · rename_i hm; rw [hg _ hm]; exact hK _ _ _ z hn
    · rename_i hm; rw [hg _ hm]; exact hK _ _ _ z hn
    · exact False.elim z
  case iaload => exact lf_stI h (fun _ _ z => lf_stA z (fun _ _ z => lf_gtI him hbm z (fun _ _ _ z => ⟨z.1, hK _ _ _ z.2 hn⟩)))
  case aaload =>
    refine lf_stI h (fun _ _ z => lf_stA z (fun _ _ z => lf_gtR him hbm z (fun _ _ _ z => ⟨z.1, ?_⟩)))
    rw [trV_rf]
    exact hK _ _ _ z.2 hn
  case iastore => exact lf_stI h (fun _ _ z => lf_stI z (fun _ _ z => lf_stA z (fun _ _ z => lf_gtI him hbm z (fun _ _ hm z => ⟨z.1, hms _ (eI _ _) _ _ (mget_lt hm) z.2⟩))))
  case aastore =>
    refine lf_stA h (fun x _ z => lf_stI z (fun i _ z => lf_stA z (fun o _ z => lf_gtR him hbm z (fun n g hm z => lf_gtO him hbm z (fun ci _ _ z => bif_mono (b := ci == 3) (fun z => ⟨z.1, ?_⟩) (fun z => z) z)))))
    have e2 : eR n (va_up (fun j => (g j).map f) i.toNatClampNeg (some (f x))) = rnE f (eR n (va_up g i.toNatClampNeg (some x))) := by
      show Sum.inr (Sum.inr (Sum.inl (n, _))) = Sum.inr (Sum.inr (Sum.inl (n, _)))
      have hf : (fun j => (va_up g i.toNatClampNeg (some x) j).map f) = va_up (fun j => (g j).map f) i.toNatClampNeg (some (f x)) := by
        funext j
        unfold va_up
        by_cases hj : j = i.toNatClampNeg
        · rw [if_pos hj, if_pos hj]; rfl
        · rw [if_neg hj, if_neg hj]
      rw [← hf]
    rw [e2]
    exact hms _ _ _ _ (mget_lt hm) z.2
  case invokevirtual ix =>
    have e1 : (S.map (trV f)).drop (mN a) = (S.drop (mN a)).map (trV f) := by rw [List.map_drop]
    have e2 : (S.map (trV f)).take (mN a) = (S.take (mN a)).map (trV f) := by rw [List.map_take]
    show stA ((S.map (trV f)).drop (mN a)) fun b r => gtO (putb f 0 m M) b fun ci _ => bif ci == mC a then csum r ≤ 8 ∧ ((S.map (trV f)).take (mN a)).length = mN a ∧ clr call ret' a (.ref b :: ((S.map (trV f)).take (mN a)).reverse) (putb f 0 m M) fun v M' => K' (rnL f L) (v ++ r) M' else False
    rw [e1, e2]
    refine lf_stA h (fun b r z => lf_gtO him hbm z (fun ci _ _ z => bif_mono (b := ci == mC a) (fun z => ⟨by rw [rn_csum]; exact z.1, by rw [List.length_map]; exact z.2.1, ?_⟩) (fun z => z) z))
    have h3 := lf_clr (X' := fun v M' => K' (rnL f L) (v ++ r.map (trV f)) M') hC hret hn z.2.2 (fun v m1 z1 z2 => by
      have h4 := hK _ _ _ z1 z2
      rw [List.map_append] at h4
      exact h4)
    rw [← List.map_reverse]
    exact h3
  case invokestatic ix =>
    have e1 : ∀ j, (S.map (trV f)).drop j = (S.drop j).map (trV f) := fun j => by rw [List.map_drop]
    have e2 : ∀ j, (S.map (trV f)).take j = (S.take j).map (trV f) := fun j => by rw [List.map_take]
    refine bif_mono (b := a == 1999) (fun z => ?_) (fun z => bif_mono (b := a == 1998) (fun z => ?_) (fun z => ?_) z) h
    · refine lf_stD z (fun x r z => ⟨by rw [rn_csum]; exact z.1, ?_⟩)
      exact lf_clr (X' := fun v M' => K' (rnL f L) (v ++ r.map (trV f)) M') hC hret hn z.2 (fun v m1 z1 z2 => by
        have h4 := hK _ _ _ z1 z2
        rw [List.map_append] at h4
        exact h4)
    · obtain ⟨x, y, r, e, z⟩ := mxK_inv z
      subst e
      exact ⟨by rw [rn_csum]; exact z.1, hK _ _ _ z.2 hn⟩
    · rw [e1, e2]
      refine ⟨by rw [rn_csum]; exact z.1, by rw [List.length_map]; exact z.2.1, ?_⟩
      have h3 := lf_clr (X' := fun v M' => K' (rnL f L) (v ++ (S.drop (mN (a % 1000))).map (trV f)) M') hC hret hn z.2.2 (fun v m1 z1 z2 => by
        have h4 := hK _ _ _ z1 z2
        rw [List.map_append] at h4
        exact h4)
      rw [← List.map_reverse]
      exact h3
  case new ix =>
    match S, h with
    | [], h => exact hret _ _ h hn
  case ireturn => exact lf_stI h (fun x r z => ⟨by rw [z.1]; rfl, z.2.1, hret _ _ z.2.2 hn⟩)
  case lreturn => exact lf_stJ h (fun x r z => ⟨by rw [z.1]; rfl, z.2.1, hret _ _ z.2.2 hn⟩)
  case dreturn => exact lf_stD h (fun x r z => ⟨by rw [z.1]; rfl, z.2.1, hret _ _ z.2.2 hn⟩)
  case areturn => exact lf_stA h (fun x r z => ⟨by rw [z.1]; rfl, z.2.1, hret _ _ z.2.2 hn⟩)
  case return_ => exact ⟨by rw [h.1]; rfl, h.2.1, hret _ _ h.2.2 hn⟩
  all_goals exact h
theorem wI_lift (hi : injK f 0 n) (hb : ∀ i, i < n → f (0 + i) < M.length) (hC : ∀ k av m r m1, call k av m r m1 → m.length = n → m1.length = n ∧ call k (av.map (trV f)) (putb f 0 m M) (rnR f r) (putb f 0 m1 M)) (hret : ∀ r m1, ret r m1 → m1.length = n → ret' (rnR f r) (putb f 0 m1 M))
    (hP : ∀ pc L S m1, P pc L S m1 → m1.length = n → P' pc (rnL f L) (S.map (trV f)) (putb f 0 m1 M)) : ∀ (r : List En) (L : Lcs) (S : List Value) (m : Mem), m.length = n → wI call ret rt P r L S m → wI call ret' rt P' r (rnL f L) (S.map (trV f)) (putb f 0 m M) := by
  intro r
  induction r with
  | nil => intro L S m _ h; exact h
  | cons x r ih =>
    intro L S m hn h
    obtain ⟨pc, i, len, a⟩ := x
    exact sI_lift hi hb hC hret hP (fun L S m1 z1 z2 => ih L S m1 z2 z1) hn h
end LIFT
theorem Cl_lift (f : Nat → Nat) : ∀ (d k : Nat) (av : List Value) (m : Mem) (r : Res) (m' : Mem), Cl d k av m r m' → ∀ M : Mem, injK f 0 m.length → (∀ i, i < m.length → f (0 + i) < M.length) → (∀ i e, mget m i = some e → mget M (f (0 + i)) = some (rnE f e)) → Cl d k (av.map (trV f)) M (rnR f r) (putb f 0 m' M) := by
  intro d
  induction d with
  | zero => intro k av m r m' h; exact False.elim h
  | succ d ih =>
    intro k av m r m' h M hi hb he
    rcases h with ⟨h1, h2, b, h3, h4, h5, h6⟩ | ⟨⟨h1, h2, h3⟩, hgo⟩
    · subst h6
      exact Or.inl ⟨h1, h2, b, by rw [h3]; rfl, h4, by rw [h5]; rfl, putb_self f hi hb he⟩
    · refine Or.inr ⟨⟨h1, by rw [rn_csum]; exact h2, putb_len f m' 0 M⟩, ?_⟩
      rw [rn_entL]
      intro P' hP'
      have key := hgo (fun pc L S m1 => m1.length = m.length → P' pc (rnL f L) (S.map (trV f)) (putb f 0 m1 M)) (fun pc L S m1 hw hn => by
        refine hP' _ _ _ _ (wI_lift (n := m.length) hi hb (fun k av m2 r m1 hc hn2 => ?_) (fun r2 m1 hr hn2 => ?_) (fun pc L S m1 z1 z2 => z1 z2) _ L S m1 hn hw)
        · have hl := (Cl_len hc).trans hn2
          refine ⟨hl, ?_⟩
          have h7 := ih k av m2 r m1 hc (putb f 0 m2 M) (by rw [hn2]; exact hi) (fun i z => by rw [putb_len]; exact hb i (by rw [← hn2]; exact z)) (fun i e z => putb_get f m2 0 M (by rw [hn2]; exact hi) (fun i z => hb i (by rw [← hn2]; exact z)) i e z)
          rwa [putb_over f (Cl_len hc) (by rw [hn2]; exact hi) (fun i z => hb i (by rw [← hn2]; exact z))] at h7
        · obtain ⟨hr1, hr2⟩ := hr
          subst hr1; subst hr2
          exact ⟨rfl, rfl⟩)
      have h8 := key rfl
      rw [putb_self f hi hb he] at h8
      exact h8
