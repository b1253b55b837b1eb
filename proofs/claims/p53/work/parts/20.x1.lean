/-! the count by hands -/
def mX1S (tot fr : Int32) (so : IA) (kd pl cd : IA) (cnt prt why : Int32) : Mem := [eO 1 [.int tot, .int fr, .ref 1], eI 4 so, eO 3 [.ref 6, .ref 3, .ref 4, .ref 5, .int cnt, .int prt, .int why], eI 20 kd, eI 20 pl, eI 20 cd]
theorem isA_iff (cl : List rl_C) (m : Nat) : isA cl m = cl.all (fun y => agN y (dq_hn m y.2.1 &&& y.2.2)) := by
  have h1 : bdD cl m cl.length = [] ↔ ∀ k, k < cl.length → agD cl m k = true := by
    unfold bdD
    rw [List.filter_eq_nil_iff]
    constructor
    · intro h k hk
      have := h k (List.mem_range.mpr hk)
      cases hb : agD cl m k with
      | true => rfl
      | false => rw [hb] at this; exact absurd rfl this
    · intro h k hk
      rw [h k (List.mem_range.mp hk)]; decide
  cases hb : cl.all (fun y => agN y (dq_hn m y.2.1 &&& y.2.2)) with
  | true =>
    have h2 : bdD cl m cl.length = [] := h1.mpr (fun k hk => by
      have hg : cl[k]? = some cl[k] := List.getElem?_eq_getElem hk
      unfold agD; rw [hg]
      exact List.all_eq_true.mp hb _ (List.mem_of_getElem? hg))
    unfold isA; rw [h2]
  | false =>
    unfold isA
    cases hd : bdD cl m cl.length with
    | cons a l => rfl
    | nil =>
      exfalso
      have h3 := h1.mp hd
      rw [List.all_eq_false] at hb
      obtain ⟨x, hx, hx2⟩ := hb
      obtain ⟨k, hk⟩ := List.getElem?_of_mem hx
      have hkl : k < cl.length := (List.getElem?_eq_some_iff.mp hk).1
      have h4 := h3 k hkl
      unfold agD at h4
      rw [hk] at h4
      exact hx2 h4
theorem hn4 {a b c e : Nat} (ha : a < 512) (hb : b < 512) (hc : c < 512) (he : e < 512) : dq_hn (dq_4 a b c e) 0 = a ∧ dq_hn (dq_4 a b c e) 1 = b ∧ dq_hn (dq_4 a b c e) 2 = c ∧ dq_hn (dq_4 a b c e) 3 = e := by
  unfold dq_hn dq_4
  refine ⟨?_, ?_, ?_, ?_⟩ <;> omega
theorem prs_all : (List.range 9).all (fun f => (List.range 9).all (fun s => Nat.ble s f || Nat.beq (2 ^ f ||| 2 ^ s) (2 ^ f + 2 ^ s))) = true := by decide +kernel
theorem two_or {f s : Nat} (hf : f < s) (hs : s < 9) : 2 ^ f ||| 2 ^ s = 2 ^ f + 2 ^ s := by
  have h := List.all_eq_true.mp (List.all_eq_true.mp prs_all f (List.mem_range.mpr (by omega))) s (List.mem_range.mpr hs)
  rw [Bool.or_eq_true] at h
  rcases h with h | h
  · have := Nat.le_of_ble_eq_true h; omega
  · exact Nat.eq_of_beq_eq_true h
set_option maxRecDepth 100000 in
theorem sub_all : (List.range 512).all (fun f => dq_prs.all (fun x => !Nat.beq (f &&& x) x || Nat.beq (f &&& (x ^^^ 4294967295)) (f - x))) = true := by decide +kernel
theorem sub_bits {f x : Nat} (hf : f < 512) (hx : x ∈ dq_prs) (h : f &&& x = x) : f &&& (x ^^^ 4294967295) = f - x := by
  have h1 := List.all_eq_true.mp (List.all_eq_true.mp sub_all f (List.mem_range.mpr hf)) x hx
  rw [nbt h] at h1
  exact Nat.eq_of_beq_eq_true h1
theorem env_all : (List.range 27).all (fun t => Nat.beq (511 &&& (dq_mask t ^^^ 4294967295)) (511 - dq_mask t)) = true := by decide +kernel
theorem prs_mem {f s : Nat} (hf : f < s) (hs : s < 9) : 2 ^ f + 2 ^ s ∈ dq_prs := by
  unfold dq_prs
  rw [List.mem_flatMap]
  refine ⟨f, List.mem_range.mpr (by omega), ?_⟩
  rw [List.mem_map]
  exact ⟨s, List.mem_range'_1.mpr ⟨by omega, by omega⟩, rfl⟩
/-- sums over all pairs of cards -/
def smL {α : Type} (g : α → Nat) : List α → Nat
  | [] => 0
  | a :: r => g a + smL g r
theorem smL_app {α : Type} (g : α → Nat) : ∀ (l r : List α), smL g (l ++ r) = smL g l + smL g r := by
  intro l
  induction l with
  | nil => intro r; exact (Nat.zero_add _).symm
  | cons a l ih => intro r; show g a + smL g (l ++ r) = g a + smL g l + smL g r; rw [ih, Nat.add_assoc]
theorem iS_sm (g : Nat → Nat) (f : Nat) : ∀ (n s : Nat), iS (fun s => g (2 ^ f + 2 ^ s)) s n = smL g ((List.range' s n).map (fun s => 2 ^ f + 2 ^ s)) := by
  intro n
  induction n with
  | zero => intro s; rfl
  | succ n ih =>
    intro s
    rw [List.range'_concat, List.map_append, smL_app, ← ih, Nat.one_mul]
    rfl
theorem oS_sm (g : Nat → Nat) : ∀ n, oS (fun f s => g (2 ^ f + 2 ^ s)) n = smL g ((List.range n).flatMap (fun f => (List.range' (f + 1) (8 - f)).map (fun s => 2 ^ f + 2 ^ s))) := by
  intro n
  induction n with
  | zero => rfl
  | succ n ih =>
    rw [List.range_succ, List.flatMap_append, smL_app, ← ih]
    show oS _ n + iS (fun s => g (2 ^ n + 2 ^ s)) (n + 1) (8 - n) = _
    rw [iS_sm]
    show _ = _ + smL g (((List.range' (n + 1) (8 - n)).map _) ++ [])
    rw [List.append_nil]
theorem oS_prs (g : Nat → Nat) : oS (fun f s => g (2 ^ f + 2 ^ s)) 9 = smL g dq_prs := oS_sm g 9
theorem smL_filter (q : Nat → Bool) (g : Nat → Nat) : ∀ l : List Nat, smL (fun x => bif q x then g x else 0) l = smL g (l.filter q) := by
  intro l
  induction l with
  | nil => rfl
  | cons a r ih =>
    show (bif q a then g a else 0) + smL _ r = _
    rw [ih, List.filter_cons]
    cases q a with
    | true => rfl
    | false => exact Nat.zero_add _
theorem smL_cnt {α : Type} (p : α → Bool) : ∀ l : List α, smL (fun x => bif p x then 1 else 0) l = l.countP p := by
  intro l
  induction l with
  | nil => rfl
  | cons a r ih =>
    show (bif p a then 1 else 0) + smL _ r = _
    rw [ih, List.countP_cons, Nat.add_comm]
    cases p a <;> rfl
theorem cnt_flat {α : Type} (p : Nat → Bool) (g : α → List Nat) : ∀ l : List α, (l.flatMap g).countP p = smL (fun a => (g a).countP p) l := by
  intro l
  induction l with
  | nil => rfl
  | cons a r ih =>
    rw [List.flatMap_cons, List.countP_append, ih]
    rfl
theorem smL_congr {α : Type} {g h : α → Nat} : ∀ l : List α, (∀ x ∈ l, g x = h x) → smL g l = smL h l := by
  intro l
  induction l with
  | nil => intro _; rfl
  | cons a r ih => intro k; show g a + smL g r = h a + smL h r; rw [k a List.mem_cons_self, ih (fun x hx => k x (List.mem_cons_of_mem _ hx))]
def c1 (cl : List rl_C) (a f e : Nat) : Nat := (dq_fit f).countP (fun b => isA cl (dq_4 a b (f - b) e))
def c0 (cl : List rl_C) (f e : Nat) : Nat := smL (fun a => c1 cl a (f - a) e) (dq_fit f)
theorem c_all (cl : List rl_C) : smL (fun t => c0 cl (511 - dq_mask t) (dq_mask t)) (List.range 27) = dT cl := by
  have h1 : dq_3.countP (isA cl) = dT cl := cnt_perm dq_perm3 (isA cl)
  rw [← h1]
  unfold dq_3
  rw [cnt_flat]
  refine smL_congr _ (fun t ht => ?_)
  have ht := List.mem_range.mp ht
  have hm := mask_lt ht
  unfold dq_3of c0
  rw [cnt_flat]
  refine smL_congr _ (fun a _ => ?_)
  unfold c1
  rw [List.countP_map]
  refine cnt_congr _ (fun b _ => ?_)
  show isA cl (dq_4 a b (511 - dq_mask t - a - b) (dq_mask t)) = isA cl (dq_4 a b (511 - dq_mask t - a - b) (511 - (511 - dq_mask t)))
  rw [show 511 - (511 - dq_mask t) = dq_mask t by omega]
section X1
variable {d : Nat} {tot fr : Int32} {kd pl cd : IA} {prt why : Int32}
theorem s_ch2 {cl : List rl_C} {a b f e : Nat} {so : IA} (hcl : clM cl kd pl cd) (hn : cl.length ≤ 20) (ok : okC cl) (ha : a < 512) (hb : b < 512) (hf : f < 512) (he : e < 512) (h0 : so 0 = nI a) (h1 : so 1 = nI b) (h3 : so 3 = nI e) :
    Cl (d + 3) kX1_countHands [.int (nI 2), .int (nI f), .ref 0, .ref 2] (mX1S tot fr so kd pl cd (nI cl.length) prt why) (.inl (some (.int (nI (bif isA cl (dq_4 a b f e) then 1 else 0))))) (mX1S tot fr (upd so 2 (nI f)) kd pl cd (nI cl.length) prt why) := by
  obtain ⟨q0, q1, q2, q3⟩ := hn4 ha hb hf he
  have hs : ∀ p, p < 4 → upd so 2 (nI f) p = nI (dq_hn (dq_4 a b f e) p) ∧ dq_hn (dq_4 a b f e) p < 512 := by
    intro p hp
    refine ⟨?_, hn_lt _ _⟩
    have h4 : p = 0 ∨ p = 1 ∨ p = 2 ∨ p = 3 := by omega
    rcases h4 with rfl | rfl | rfl | rfl
    · rw [q0]; exact h0
    · rw [q1]; exact h1
    · rw [q2]; rfl
    · rw [q3]; exact h3
  refine Cl_go e_X1_countHands (Nat.le_of_ble_eq_true rfl) rfl ?_; intro P hP; refine hP _ _ _ _ ?_; conv => whnf
  refine b1 2 rfl (by omega) (fun (q : 2 < 0) => by omega) (fun _ => ?_); conv => whnf
  refine b2 2 3 rfl rfl (by omega) (by omega) (fun _ => ?_) (fun (q : ¬ 2 < 3) => by omega)
  refine hP _ _ _ _ ?_; conv => whnf
  refine b2 2 2 rfl rfl (by omega) (by omega) (fun (q : ¬ 2 = 2) => by omega) (fun _ => ?_); conv => whnf
  refine ⟨vi (n := 2) rfl (by decide) (by decide), ?_⟩; conv => whnf
  refine ⟨Nat.le_of_ble_eq_true rfl, rfl, ?_⟩; conv => whnf
  have hk : Cl (d + 2) kX3_agreesWithAll [.ref 2, .ref 1] (mX1S tot fr (upd so 2 (nI f)) kd pl cd (nI cl.length) prt why) (.inl (some (.int (bI (isA cl (dq_4 a b f e)))))) (mX1S tot fr (upd so 2 (nI f)) kd pl cd (nI cl.length) prt why) := by
    rw [isA_iff]
    exact Cl_rd [2, 3, 4, 5, 1, 6] (s_agreesWithAll (so := upd so 2 (nI f)) (prt := prt) (why := why) hcl hn ok hs) 5 rfl rfl ⟨rfl, rfl, rfl, rfl, rfl, trivial⟩
  refine Or.inl ⟨_, _, hk, ?_⟩; conv => whnf
  cases hb : isA cl (dq_4 a b f e) with
  | true =>
    refine b1 1 rfl (by omega) (fun (q : 1 = 0) => by omega) (fun _ => ?_); conv => whnf
    refine hP _ _ _ _ ?_; conv => whnf
    exact ⟨rfl, ⟨.int, rfl, rfl⟩, rI (by rw [hb]; rfl), rfl⟩
  | false =>
    refine b1 0 rfl (by omega) (fun _ => ?_) (fun (q : ¬ 0 = 0) => by omega)
    refine hP _ _ _ _ ?_; conv => whnf
    refine hP _ _ _ _ ?_; conv => whnf
    exact ⟨rfl, ⟨.int, rfl, rfl⟩, rI (by rw [hb]; rfl), rfl⟩
def Q1 (tot fr : Int32) (kd pl cd : IA) (cnt prt why : Int32) (v : Nat) (R : IA → Prop) : Res → Mem → Prop := fun r N => r = .inl (some (.int (nI v))) ∧ ∃ so', R so' ∧ N = mX1S tot fr so' kd pl cd cnt prt why
theorem s_ch1 {cl : List rl_C} {a f e : Nat} {so : IA} (hcl : clM cl kd pl cd) (hn : cl.length ≤ 20) (ok : okC cl) (ha : a < 512) (hf : f < 512) (he : e < 512) (h0 : so 0 = nI a) (h3 : so 3 = nI e) :
    ∃ so', so' 3 = nI e ∧ Cl (d + 4) kX1_countHands [.int (nI 1), .int (nI f), .ref 0, .ref 2] (mX1S tot fr so kd pl cd (nI cl.length) prt why) (.inl (some (.int (nI (c1 cl a f e))))) (mX1S tot fr so' kd pl cd (nI cl.length) prt why) := by
  suffices hh : ∃ r M', Q1 tot fr kd pl cd (nI cl.length) prt why (c1 cl a f e) (fun so' => so' 3 = nI e) r M' ∧ Cl (d + 4) kX1_countHands [.int (nI 1), .int (nI f), .ref 0, .ref 2] (mX1S tot fr so kd pl cd (nI cl.length) prt why) r M' by
    obtain ⟨r, M', ⟨rfl, so', h1, rfl⟩, h2⟩ := hh
    exact ⟨so', h1, h2⟩
  refine Cl_goQ e_X1_countHands rfl (Nat.le_of_ble_eq_true rfl) (fun r M' q => by obtain ⟨-, so', -, rfl⟩ := q; rfl) (⟨_, _, rfl, so, h3, rfl⟩) ?_; intro P hP; refine hP _ _ _ _ ?_; conv => whnf
  refine b1 1 rfl (by omega) (fun (q : 1 < 0) => by omega) (fun _ => ?_); conv => whnf
  refine b2 1 3 rfl rfl (by omega) (by omega) (fun _ => ?_) (fun (q : ¬ 1 < 3) => by omega)
  refine hP _ _ _ _ ?_; conv => whnf
  refine b2 1 2 rfl rfl (by omega) (by omega) (fun _ => ?_) (fun (q : ¬ ¬ 1 = 2) => by omega)
  refine hP _ _ _ _ ?_; conv => whnf
  let g : Nat → Nat := fun x => bif Nat.beq (f &&& x) x then (bif isA cl (dq_4 a x (f - x) e) then 1 else 0) else 0
  have hg : oS (fun f s => g (2 ^ f + 2 ^ s)) 9 = c1 cl a f e := by
    rw [oS_prs]
    show smL (fun x => bif Nat.beq (f &&& x) x then (bif isA cl (dq_4 a x (f - x) e) then 1 else 0) else 0) dq_prs = _
    rw [smL_filter (fun x => Nat.beq (f &&& x) x) (fun x => bif isA cl (dq_4 a x (f - x) e) then 1 else 0), smL_cnt (fun x => isA cl (dq_4 a x (f - x) e))]
    rfl
  have inn : ∀ (n i s : Nat) (c x : Int32) (so1 : IA) (N : Mem) (v : Nat), i < 9 → s + n = 9 → i < s → x = nI s → c = nI v → so1 0 = nI a → so1 3 = nI e → N = mX1S tot fr so1 kd pl cd (nI cl.length) prt why →
      (∀ c' so2 N', c' = nI (v + iS (fun s => g (2 ^ i + 2 ^ s)) s n) → so2 0 = nI a → so2 3 = nI e → N' = mX1S tot fr so2 kd pl cd (nI cl.length) prt why → P 119 [some (.int (nI 1)), some (.int (nI f)), some (.ref 0), some (.ref 2), some (.int c'), some (.int (nI i)), none, none] [] N') →
      P 59 [some (.int (nI 1)), some (.int (nI f)), some (.ref 0), some (.ref 2), some (.int c), some (.int (nI i)), some (.int x), none] [] N := by
    intro n
    induction n with
    | zero =>
      intro i s c x so1 N v hi hs his hx hc q0 q3 hN k
      subst hN
      refine hP _ _ _ _ ?_; conv => whnf
      refine b2 s 9 hx rfl (by omega) (by omega) (fun _ => ?_) (fun (q : ¬ 9 ≤ s) => by omega)
      exact k _ so1 _ (by rw [hc]; rfl) q0 q3 rfl
    | succ n ih =>
      intro i s c x so1 N v hi hs his hx hc q0 q3 hN k
      subst hN
      subst hx
      subst hc
      have e1 : nI 1 <<< (nI i &&& 31) ||| nI 1 <<< (nI s &&& 31) = nI (2 ^ i + 2 ^ s) := by rw [sh_1 (show i < 31 by omega), sh_1 (show s < 31 by omega), nI_or, two_or his (by omega)]
      have hl : 2 ^ i + 2 ^ s < 512 := by rw [← two_or his (by omega)]; exact two_lt hi (by omega)
      have hl2 : f &&& (2 ^ i + 2 ^ s) < 512 := Nat.lt_of_le_of_lt Nat.and_le_left hf
      have e2 : nI f &&& (nI 1 <<< (nI i &&& 31) ||| nI 1 <<< (nI s &&& 31)) = nI (f &&& (2 ^ i + 2 ^ s)) := by rw [e1, nI_and]
      have hsh : ∀ (m : Nat) (h : NA) (s : Nat), iS h s (m + 1) = h s + iS h (s + 1) m := by
        intro m
        induction m with
        | zero => intro h s; show 0 + h (s + 0) = h s + 0; rw [Nat.zero_add]; rfl
        | succ m ihm =>
          intro h s
          show iS h s (m + 1) + h (s + (m + 1)) = h s + (iS h (s + 1) m + h (s + 1 + m))
          rw [ihm, Nat.add_assoc, show s + (m + 1) = s + 1 + m by omega]
      rw [hsh, ← Nat.add_assoc] at k
      refine hP _ _ _ _ ?_; conv => whnf
      refine b2 s 9 rfl rfl (by omega) (by omega) (fun (q : 9 ≤ s) => by omega) (fun _ => ?_); conv => whnf
      refine b2 _ _ e2 e1 (by omega) (by omega) (fun (q : ¬ f &&& (2 ^ i + 2 ^ s) = 2 ^ i + 2 ^ s) => ?_) (fun (q : ¬ ¬ f &&& (2 ^ i + 2 ^ s) = 2 ^ i + 2 ^ s) => ?_)
      · refine hP _ _ _ _ ?_; conv => whnf
        have e4 : g (2 ^ i + 2 ^ s) = 0 := by show (bif Nat.beq _ _ then _ else 0) = 0; rw [nbf q]; rfl
        rw [e4] at k
        exact ih i (s + 1) _ _ so1 _ (v + 0) hi (by omega) (by omega) (nI_1 s) rfl q0 q3 rfl k
      · conv => whnf
        have q := Decidable.of_not_not q
        have e5 := sub_bits hf (prs_mem his (by omega)) q
        have hle : 2 ^ i + 2 ^ s ≤ f := by rw [← q]; exact Nat.and_le_left
        refine ⟨vi (n := 1) rfl (by decide) (by decide), ?_⟩; conv => whnf
        refine ⟨Nat.le_of_ble_eq_true rfl, rfl, ?_⟩; conv => whnf
        have hk : Cl (d + 3) kX1_countHands [.int (nI 1 + cst 1), .int (nI f &&& ((nI 1 <<< (nI i &&& 31) ||| nI 1 <<< (nI s &&& 31)) ^^^ cst (-1))), .ref 0, .ref 2] (mX1S tot fr (upd so1 1 (nI 1 <<< (nI i &&& 31) ||| nI 1 <<< (nI s &&& 31))) kd pl cd (nI cl.length) prt why)
            (.inl (some (.int (nI (bif isA cl (dq_4 a (2 ^ i + 2 ^ s) (f - (2 ^ i + 2 ^ s)) e) then 1 else 0))))) (mX1S tot fr (upd (upd so1 1 (nI (2 ^ i + 2 ^ s))) 2 (nI (f - (2 ^ i + 2 ^ s)))) kd pl cd (nI cl.length) prt why) := by
          rw [e1, show cst (-1) = nI 4294967295 from rfl, nI_xor, nI_and, e5]
          exact s_ch2 hcl hn ok ha hl (by omega) he q0 rfl q3
        refine Or.inl ⟨_, _, hk, ?_⟩; conv => whnf
        refine hP _ _ _ _ ?_; conv => whnf
        have e4 : g (2 ^ i + 2 ^ s) = (bif isA cl (dq_4 a (2 ^ i + 2 ^ s) (f - (2 ^ i + 2 ^ s)) e) then 1 else 0) := by show (bif Nat.beq _ _ then _ else 0) = _; rw [nbt q]; rfl
        refine ih i (s + 1) _ _ (upd (upd so1 1 (nI (2 ^ i + 2 ^ s))) 2 (nI (f - (2 ^ i + 2 ^ s)))) _ (v + g (2 ^ i + 2 ^ s)) hi (by omega) (by omega) (nI_1 s) ?_ q0 q3 rfl k
        rw [e4, ← nI_add]
  have out : ∀ (n i : Nat) (c x : Int32) (so1 : IA) (N : Mem), i + n = 9 → x = nI i → c = nI (oS (fun f s => g (2 ^ f + 2 ^ s)) i) → so1 0 = nI a → so1 3 = nI e → N = mX1S tot fr so1 kd pl cd (nI cl.length) prt why → P 46 [some (.int (nI 1)), some (.int (nI f)), some (.ref 0), some (.ref 2), some (.int c), some (.int x), none, none] [] N := by
    intro n
    induction n with
    | zero =>
      intro i c x so1 N hi hx hc q0 q3 hN
      subst hN
      have hi : i = 9 := hi
      subst hi
      rw [hg] at hc
      refine hP _ _ _ _ ?_; conv => whnf
      refine b2 9 9 hx rfl (by omega) (by omega) (fun _ => ?_) (fun (q : ¬ 9 ≤ 9) => by omega)
      refine hP _ _ _ _ ?_; conv => whnf
      exact ⟨rfl, ⟨.int, rfl, rfl⟩, rI hc, so1, q3, rfl⟩
    | succ n ih =>
      intro i c x so1 N hi hx hc q0 q3 hN
      subst hN
      subst hx
      refine hP _ _ _ _ ?_; conv => whnf
      refine b2 i 9 rfl rfl (by omega) (by omega) (fun (q : 9 ≤ i) => by omega) (fun _ => ?_); conv => whnf
      refine inn (8 - i) i (i + 1) _ _ so1 _ (oS (fun f s => g (2 ^ f + 2 ^ s)) i) (by omega) (by omega) (by omega) (nI_1 i) hc q0 q3 rfl (fun c' so2 N' hc' r0 r3 hN' => ?_)
      subst hN'
      refine hP _ _ _ _ ?_; conv => whnf
      exact ih (i + 1) _ _ so2 _ (by omega) (nI_1 i) hc' r0 r3 rfl
  exact out 9 0 _ _ so _ rfl rfl rfl h0 h3 rfl
theorem s_ch0 {cl : List rl_C} {f e : Nat} {so : IA} (hcl : clM cl kd pl cd) (hn : cl.length ≤ 20) (ok : okC cl) (hf : f < 512) (he : e < 512) (h3 : so 3 = nI e) :
    ∃ so', so' 3 = nI e ∧ Cl (d + 5) kX1_countHands [.int (nI 0), .int (nI f), .ref 0, .ref 2] (mX1S tot fr so kd pl cd (nI cl.length) prt why) (.inl (some (.int (nI (c0 cl f e))))) (mX1S tot fr so' kd pl cd (nI cl.length) prt why) := by
  suffices hh : ∃ r M', Q1 tot fr kd pl cd (nI cl.length) prt why (c0 cl f e) (fun so' => so' 3 = nI e) r M' ∧ Cl (d + 5) kX1_countHands [.int (nI 0), .int (nI f), .ref 0, .ref 2] (mX1S tot fr so kd pl cd (nI cl.length) prt why) r M' by
    obtain ⟨r, M', ⟨rfl, so', h1, rfl⟩, h2⟩ := hh
    exact ⟨so', h1, h2⟩
  refine Cl_goQ e_X1_countHands rfl (Nat.le_of_ble_eq_true rfl) (fun r M' q => by obtain ⟨-, so', -, rfl⟩ := q; rfl) (⟨_, _, rfl, so, h3, rfl⟩) ?_; intro P hP; refine hP _ _ _ _ ?_; conv => whnf
  refine b1 0 rfl (by omega) (fun (q : 0 < 0) => by omega) (fun _ => ?_); conv => whnf
  refine b2 0 3 rfl rfl (by omega) (by omega) (fun _ => ?_) (fun (q : ¬ 0 < 3) => by omega)
  refine hP _ _ _ _ ?_; conv => whnf
  refine b2 0 2 rfl rfl (by omega) (by omega) (fun _ => ?_) (fun (q : ¬ ¬ 0 = 2) => by omega)
  refine hP _ _ _ _ ?_; conv => whnf
  let g : Nat → Nat := fun x => bif Nat.beq (f &&& x) x then c1 cl x (f - x) e else 0
  have hg : oS (fun f s => g (2 ^ f + 2 ^ s)) 9 = c0 cl f e := by
    rw [oS_prs]
    show smL (fun x => bif Nat.beq (f &&& x) x then c1 cl x (f - x) e else 0) dq_prs = _
    rw [smL_filter (fun x => Nat.beq (f &&& x) x) (fun x => c1 cl x (f - x) e)]
    rfl
  have inn : ∀ (n i s : Nat) (c x : Int32) (so1 : IA) (N : Mem) (v : Nat), i < 9 → s + n = 9 → i < s → x = nI s → c = nI v → so1 3 = nI e → N = mX1S tot fr so1 kd pl cd (nI cl.length) prt why →
      (∀ c' so2 N', c' = nI (v + iS (fun s => g (2 ^ i + 2 ^ s)) s n) → so2 3 = nI e → N' = mX1S tot fr so2 kd pl cd (nI cl.length) prt why → P 119 [some (.int (nI 0)), some (.int (nI f)), some (.ref 0), some (.ref 2), some (.int c'), some (.int (nI i)), none, none] [] N') →
      P 59 [some (.int (nI 0)), some (.int (nI f)), some (.ref 0), some (.ref 2), some (.int c), some (.int (nI i)), some (.int x), none] [] N := by
    intro n
    induction n with
    | zero =>
      intro i s c x so1 N v hi hs his hx hc q3 hN k
      subst hN
      refine hP _ _ _ _ ?_; conv => whnf
      refine b2 s 9 hx rfl (by omega) (by omega) (fun _ => ?_) (fun (q : ¬ 9 ≤ s) => by omega)
      exact k _ so1 _ (by rw [hc]; rfl) q3 rfl
    | succ n ih =>
      intro i s c x so1 N v hi hs his hx hc q3 hN k
      subst hN
      subst hx
      subst hc
      have e1 : nI 1 <<< (nI i &&& 31) ||| nI 1 <<< (nI s &&& 31) = nI (2 ^ i + 2 ^ s) := by rw [sh_1 (show i < 31 by omega), sh_1 (show s < 31 by omega), nI_or, two_or his (by omega)]
      have hl : 2 ^ i + 2 ^ s < 512 := by rw [← two_or his (by omega)]; exact two_lt hi (by omega)
      have hl2 : f &&& (2 ^ i + 2 ^ s) < 512 := Nat.lt_of_le_of_lt Nat.and_le_left hf
      have e2 : nI f &&& (nI 1 <<< (nI i &&& 31) ||| nI 1 <<< (nI s &&& 31)) = nI (f &&& (2 ^ i + 2 ^ s)) := by rw [e1, nI_and]
      have hsh : ∀ (m : Nat) (h : NA) (s : Nat), iS h s (m + 1) = h s + iS h (s + 1) m := by
        intro m
        induction m with
        | zero => intro h s; show 0 + h (s + 0) = h s + 0; rw [Nat.zero_add]; rfl
        | succ m ihm =>
          intro h s
          show iS h s (m + 1) + h (s + (m + 1)) = h s + (iS h (s + 1) m + h (s + 1 + m))
          rw [ihm, Nat.add_assoc, show s + (m + 1) = s + 1 + m by omega]
      rw [hsh, ← Nat.add_assoc] at k
      refine hP _ _ _ _ ?_; conv => whnf
      refine b2 s 9 rfl rfl (by omega) (by omega) (fun (q : 9 ≤ s) => by omega) (fun _ => ?_); conv => whnf
      refine b2 _ _ e2 e1 (by omega) (by omega) (fun (q : ¬ f &&& (2 ^ i + 2 ^ s) = 2 ^ i + 2 ^ s) => ?_) (fun (q : ¬ ¬ f &&& (2 ^ i + 2 ^ s) = 2 ^ i + 2 ^ s) => ?_)
      · refine hP _ _ _ _ ?_; conv => whnf
        have e4 : g (2 ^ i + 2 ^ s) = 0 := by show (bif Nat.beq _ _ then _ else 0) = 0; rw [nbf q]; rfl
        rw [e4] at k
        exact ih i (s + 1) _ _ so1 _ (v + 0) hi (by omega) (by omega) (nI_1 s) rfl q3 rfl k
      · conv => whnf
        have q := Decidable.of_not_not q
        have e5 := sub_bits hf (prs_mem his (by omega)) q
        have hle : 2 ^ i + 2 ^ s ≤ f := by rw [← q]; exact Nat.and_le_left
        refine ⟨vi (n := 0) rfl (by decide) (by decide), ?_⟩; conv => whnf
        refine ⟨Nat.le_of_ble_eq_true rfl, rfl, ?_⟩; conv => whnf
        have hk : ∃ so', so' 3 = nI e ∧ Cl (d + 4) kX1_countHands [.int (nI 0 + cst 1), .int (nI f &&& ((nI 1 <<< (nI i &&& 31) ||| nI 1 <<< (nI s &&& 31)) ^^^ cst (-1))), .ref 0, .ref 2] (mX1S tot fr (upd so1 0 (nI 1 <<< (nI i &&& 31) ||| nI 1 <<< (nI s &&& 31))) kd pl cd (nI cl.length) prt why)
            (.inl (some (.int (nI (c1 cl (2 ^ i + 2 ^ s) (f - (2 ^ i + 2 ^ s)) e))))) (mX1S tot fr so' kd pl cd (nI cl.length) prt why) := by
          rw [e1, show cst (-1) = nI 4294967295 from rfl, nI_xor, nI_and, e5]
          exact s_ch1 hcl hn ok hl (by omega) he rfl q3
        obtain ⟨so2, r3, hk⟩ := hk
        refine Or.inl ⟨_, _, hk, ?_⟩; conv => whnf
        refine hP _ _ _ _ ?_; conv => whnf
        have e4 : g (2 ^ i + 2 ^ s) = c1 cl (2 ^ i + 2 ^ s) (f - (2 ^ i + 2 ^ s)) e := by show (bif Nat.beq _ _ then _ else 0) = _; rw [nbt q]; rfl
        refine ih i (s + 1) _ _ so2 _ (v + g (2 ^ i + 2 ^ s)) hi (by omega) (by omega) (nI_1 s) ?_ r3 rfl k
        rw [e4, ← nI_add]
  have out : ∀ (n i : Nat) (c x : Int32) (so1 : IA) (N : Mem), i + n = 9 → x = nI i → c = nI (oS (fun f s => g (2 ^ f + 2 ^ s)) i) → so1 3 = nI e → N = mX1S tot fr so1 kd pl cd (nI cl.length) prt why → P 46 [some (.int (nI 0)), some (.int (nI f)), some (.ref 0), some (.ref 2), some (.int c), some (.int x), none, none] [] N := by
    intro n
    induction n with
    | zero =>
      intro i c x so1 N hi hx hc q3 hN
      subst hN
      have hi : i = 9 := hi
      subst hi
      rw [hg] at hc
      refine hP _ _ _ _ ?_; conv => whnf
      refine b2 9 9 hx rfl (by omega) (by omega) (fun _ => ?_) (fun (q : ¬ 9 ≤ 9) => by omega)
      refine hP _ _ _ _ ?_; conv => whnf
      exact ⟨rfl, ⟨.int, rfl, rfl⟩, rI hc, so1, q3, rfl⟩
    | succ n ih =>
      intro i c x so1 N hi hx hc q3 hN
      subst hN
      subst hx
      refine hP _ _ _ _ ?_; conv => whnf
      refine b2 i 9 rfl rfl (by omega) (by omega) (fun (q : 9 ≤ i) => by omega) (fun _ => ?_); conv => whnf
      refine inn (8 - i) i (i + 1) _ _ so1 _ (oS (fun f s => g (2 ^ f + 2 ^ s)) i) (by omega) (by omega) (by omega) (nI_1 i) hc q3 rfl (fun c' so2 N' hc' r3 hN' => ?_)
      subst hN'
      refine hP _ _ _ _ ?_; conv => whnf
      exact ih (i + 1) _ _ so2 _ (by omega) (nI_1 i) hc' r3 rfl
  exact out 9 0 _ _ so _ rfl rfl rfl h3 rfl
theorem s_count1 {cl : List rl_C} {so : IA} (hcl : clM cl kd pl cd) (hn : cl.length ≤ 20) (ok : okC cl) :
    ∃ so', Cl (d + 6) kX1_count [.ref 0, .ref 2] (mX1S tot fr so kd pl cd (nI cl.length) prt why) (.inl none) (mX1S (nI (dT cl)) (nI 1) so' kd pl cd (nI cl.length) prt why) := by
  suffices hh : ∃ r M', (r = Sum.inl none ∧ ∃ so', M' = mX1S (nI (dT cl)) (nI 1) so' kd pl cd (nI cl.length) prt why) ∧ Cl (d + 6) kX1_count [.ref 0, .ref 2] (mX1S tot fr so kd pl cd (nI cl.length) prt why) r M' by
    obtain ⟨r, M', ⟨rfl, so', rfl⟩, h2⟩ := hh
    exact ⟨so', h2⟩
  refine Cl_goQ e_X1_count rfl (Nat.le_of_ble_eq_true rfl) (fun r M' q => by obtain ⟨-, so', rfl⟩ := q; rfl) (⟨_, _, rfl, so, rfl⟩) ?_; intro P hP; refine hP _ _ _ _ ?_; conv => whnf
  refine ⟨⟨rfl, rfl⟩, ?_⟩; conv => whnf
  let g : Nat → Nat := fun t => c0 cl (511 - dq_mask t) (dq_mask t)
  have lp : ∀ (n i : Nat) (x tv : Int32) (so1 : IA) (N : Mem), i + n = 27 → x = nI i → tv = nI (smL g (List.range i)) → N = mX1S tv fr so1 kd pl cd (nI cl.length) prt why → P 7 [some (.ref 0), some (.ref 2), some (.int x)] [] N := by
    intro n
    induction n with
    | zero =>
      intro i x tv so1 N hi hx htv hN
      subst hN
      have hi : i = 27 := hi
      subst hi
      have htv : tv = nI (dT cl) := by rw [htv]; exact congrArg nI (c_all cl)
      refine hP _ _ _ _ ?_; conv => whnf
      refine b2 27 27 hx rfl (by omega) (by omega) (fun _ => ?_) (fun (q : ¬ 27 ≤ 27) => by omega)
      refine hP _ _ _ _ ?_; conv => whnf
      refine ⟨⟨rfl, rfl⟩, ?_⟩; conv => whnf
      exact ⟨rfl, rfl, rfl, so1, by rw [htv]; rfl⟩
    | succ n ih =>
      intro i x tv so1 N hi hx htv hN
      subst hN
      subst hx
      have hm := mask_lt (show i < 27 by omega)
      have he := Nat.eq_of_beq_eq_true (List.all_eq_true.mp env_all i (List.mem_range.mpr (by omega)))
      refine hP _ _ _ _ ?_; conv => whnf
      refine b2 i 27 rfl rfl (by omega) (by omega) (fun (q : 27 ≤ i) => by omega) (fun _ => ?_); conv => whnf
      refine ⟨Nat.le_of_ble_eq_true rfl, rfl, ?_⟩; conv => whnf
      refine Or.inl ⟨_, _, Cl_s (s_cardsOfTriple (d := d + 3) (show i < 27 by omega)), ?_⟩; conv => whnf
      refine ⟨vi (n := 3) rfl (by decide) (by decide), ?_⟩; conv => whnf
      refine ⟨vi (n := 3) rfl (by decide) (by decide), ?_⟩; conv => whnf
      refine ⟨Nat.le_of_ble_eq_true rfl, rfl, ?_⟩; conv => whnf
      have hk : ∃ so', so' 3 = nI (dq_mask i) ∧ Cl (d + 5) kX1_countHands [.int (nI 0), .int (cst 511 &&& (nI (dq_mask i) ^^^ cst (-1))), .ref 0, .ref 2] (mX1S tv fr (upd so1 3 (nI (dq_mask i))) kd pl cd (nI cl.length) prt why)
          (.inl (some (.int (nI (c0 cl (511 - dq_mask i) (dq_mask i)))))) (mX1S tv fr so' kd pl cd (nI cl.length) prt why) := by
        rw [show cst 511 = nI 511 from rfl, show cst (-1) = nI 4294967295 from rfl, nI_xor, nI_and, he]
        exact s_ch0 hcl hn ok (by omega) hm rfl
      obtain ⟨so2, r3, hk⟩ := hk
      refine Or.inl ⟨_, _, hk, ?_⟩; conv => whnf
      refine ⟨⟨rfl, rfl⟩, ?_⟩; conv => whnf
      refine ih (i + 1) _ _ so2 _ (by omega) (nI_1 i) ?_ rfl
      rw [List.range_succ, smL_app, htv]
      show _ = nI (smL g (List.range i) + (g i + 0))
      rw [Nat.add_zero, ← nI_add]
  exact lp 27 0 _ _ so _ rfl rfl rfl rfl
end X1
