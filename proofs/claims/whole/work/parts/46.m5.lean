/-! what the reference counts is what the class counts -/
set_option maxRecDepth 1000000 in
theorem env_D0 : dq_D.all (fun x => (List.range 27).any (fun t => Nat.beq (dq_hn x 3) (dq_mask t))) = true := by decide +kernel
theorem env_D {x : Nat} (hx : x ∈ dq_D) : ∃ t, t < 27 ∧ dq_hn x 3 = dq_mask t := by
  have h := List.all_eq_true.mp env_D0 x hx
  obtain ⟨t, ht, h2⟩ := List.any_eq_true.mp h
  exact ⟨t, List.mem_range.mp ht, Nat.eq_of_beq_eq_true h2⟩
set_option maxRecDepth 1000000 in
theorem one_D0 : dq_D.all (fun x => (List.range 9).all (fun c => Nat.beq ((List.range 4).countP (fun p => (dq_hn x p).testBit c)) 1)) = true := by decide +kernel
theorem one_D {x c p q : Nat} (hx : x ∈ dq_D) (hc : c < 9) (hp : p < 4) (hq : q < 4) (h1 : (dq_hn x p).testBit c = true) (h2 : (dq_hn x q).testBit c = true) : p = q := by
  have h := Nat.eq_of_beq_eq_true (List.all_eq_true.mp (List.all_eq_true.mp one_D0 x hx) c (List.mem_range.mpr hc))
  have e : (List.range 4).countP (fun p => (dq_hn x p).testBit c) = (if (dq_hn x 0).testBit c then 1 else 0) + (if (dq_hn x 1).testBit c then 1 else 0) + (if (dq_hn x 2).testBit c then 1 else 0) + (if (dq_hn x 3).testBit c then 1 else 0) := by
    show cntN (fun p => (dq_hn x p).testBit c) 4 = _
    rw [cntN_succ, cntN_succ, cntN_succ, cntN_succ]
    show 0 + _ + _ + _ + _ = _
    rw [Nat.zero_add]
  rw [e] at h
  clear e
  rcases (by omega : p = 0 ∨ p = 1 ∨ p = 2 ∨ p = 3) with e | e | e | e <;> rcases (by omega : q = 0 ∨ q = 1 ∨ q = 2 ∨ q = 3) with f | f | f | f <;> subst e <;> subst f <;> first | rfl | (exfalso; rw [if_pos h1, if_pos h2] at h; omega)
theorem allBut_D {cl : List rl_C} {x w : Nat} (hx : x ∈ dq_D) (hc : ∀ y ∈ cl, clX y) : allBut cl (dq_hn x) w cl.length = (List.range cl.length).all (fun k => Nat.beq k w || agD cl x k) := by
  unfold allBut
  have e : ∀ k ∈ List.range cl.length, (Nat.beq k w || agM (cl.getD k (0, 0, 0)) (dq_hn x (cl.getD k (0, 0, 0)).2.1)) = (Nat.beq k w || agD cl x k) := by
    intro k hk
    have hk := List.mem_range.mp hk
    have hg : cl[k]? = some cl[k] := List.getElem?_eq_getElem hk
    have hd : cl.getD k (0, 0, 0) = cl[k] := by rw [List.getD_eq_getElem?_getD, hg]; rfl
    have hX := hc _ (List.mem_of_getElem? hg)
    rw [hd]
    unfold agD
    rw [hg, agM_eq hX (fun h4 => by rw [hX.1.2.2 h4]; exact env_D hx)]
  rw [Bool.eq_iff_iff, List.all_eq_true, List.all_eq_true]
  exact ⟨fun h k hk => by rw [← e k hk]; exact h k hk, fun h k hk => by rw [e k hk]; exact h k hk⟩
theorem goQ_A {cl : List rl_C} {x : Nat} (hx : x ∈ dq_D) (hc : ∀ y ∈ cl, clX y) (hl : cl.length ≤ 20) : goQf cl 20 x = isA cl x := by
  unfold goQf
  rw [allBut_D hx hc]
  unfold isA bdD
  have e : (List.range cl.length).all (fun k => Nat.beq k 20 || agD cl x k) = (List.range cl.length).all (fun k => agD cl x k) := by
    rw [Bool.eq_iff_iff, List.all_eq_true, List.all_eq_true]
    have f : ∀ k ∈ List.range cl.length, Nat.beq k 20 = false := fun k hk => nbf (by have := List.mem_range.mp hk; omega)
    exact ⟨fun h k hk => by have := h k hk; rw [f k hk, Bool.false_or] at this; exact this, fun h k hk => by rw [f k hk, Bool.false_or]; exact h k hk⟩
  rw [e]
  cases hf : (List.range cl.length).filter (fun k => !agD cl x k) with
  | nil =>
    rw [List.filter_eq_nil_iff] at hf
    rw [List.all_eq_true]
    intro k hk
    have := hf k hk
    cases ha : agD cl x k with
    | true => rfl
    | false => rw [ha] at this; exact absurd rfl this
  | cons a r =>
    have hm : a ∈ (List.range cl.length).filter (fun k => !agD cl x k) := by rw [hf]; exact List.mem_cons_self
    rw [List.mem_filter] at hm
    rw [List.all_eq_false]
    refine ⟨a, hm.1, fun h => ?_⟩
    rw [h] at hm
    cases hm.2
theorem goQ_K {cl : List rl_C} {x k : Nat} (hx : x ∈ dq_D) (hc : ∀ y ∈ cl, clX y) (hk : k < cl.length) : goQf cl k x = (isA cl x || isK cl x k) := by
  unfold goQf
  rw [allBut_D hx hc]
  unfold isA isK bdD
  have e : (List.range cl.length).all (fun j => Nat.beq j k || agD cl x j) = ((List.range cl.length).filter (fun j => !agD cl x j)).all (fun j => Nat.beq j k) := by
    rw [Bool.eq_iff_iff, List.all_eq_true, List.all_eq_true]
    constructor
    · intro h j hj
      rw [List.mem_filter] at hj
      have h2 := h j hj.1
      cases ha : agD cl x j with
      | true => rw [ha] at hj; cases hj.2
      | false => rw [ha, Bool.or_false] at h2; exact h2
    · intro h j hj
      cases ha : agD cl x j with
      | true => exact Bool.or_true _
      | false =>
        rw [Bool.or_false]
        exact h j (List.mem_filter.mpr ⟨hj, by rw [ha]; rfl⟩)
  rw [e]
  have hn : ((List.range cl.length).filter (fun j => !agD cl x j)).Nodup := List.Pairwise.filter _ List.nodup_range
  match hb : (List.range cl.length).filter (fun j => !agD cl x j) with
  | [] => rfl
  | [i] =>
    show (Nat.beq i k && true) = (false || Nat.beq k i)
    rw [Bool.and_true, Bool.false_or]
    by_cases q : i = k
    · rw [nbt q, nbt q.symm]
    · rw [nbf q, nbf (fun z => q z.symm)]
  | a :: b :: r =>
    show (Nat.beq a k && (Nat.beq b k && _)) = (false || false)
    rw [hb] at hn
    have hab : ¬ a = b := fun z => (List.nodup_cons.mp hn).1 (by rw [z]; exact List.mem_cons_self)
    by_cases q : a = k
    · rw [nbf (show ¬ b = k by omega)]; cases Nat.beq a k <;> rfl
    · rw [nbf q]; rfl
theorem cnt_or {p q : Nat → Bool} : ∀ (L : List Nat), (∀ x ∈ L, ¬ (p x = true ∧ q x = true)) → L.countP (fun x => p x || q x) = L.countP p + L.countP q := by
  intro L
  induction L with
  | nil => intro _; rfl
  | cons a r ih =>
    intro h
    rw [List.countP_cons, List.countP_cons, List.countP_cons, ih (fun x hx => h x (List.mem_cons_of_mem _ hx))]
    have ha := h a List.mem_cons_self
    cases hp : p a with
    | true =>
      cases hq : q a with
      | true => exact absurd ⟨hp, hq⟩ ha
      | false => show _ + 1 = _ + 1 + (_ + 0); omega
    | false =>
      cases hq : q a with
      | true => show _ + 1 = _ + 0 + (_ + 1); omega
      | false => rfl
theorem goN_T {cl : List rl_C} (hc : ∀ y ∈ cl, clX y) (hl : cl.length ≤ 20) : goN cl 20 = dT cl := cnt_congr _ (fun _ hx => goQ_A hx hc hl)
theorem goN_K {cl : List rl_C} {k : Nat} (hc : ∀ y ∈ cl, clX y) (hk : k < cl.length) : goN cl k = dT cl + dHB cl k := by
  have e : goN cl k = dq_D.countP (fun x => isA cl x || isK cl x k) := cnt_congr _ (fun _ hx => goQ_K hx hc hk)
  rw [e]
  refine cnt_or dq_D (fun x _ h => ?_)
  unfold isA isK at h
  match hb : bdD cl x cl.length with
  | [] => rw [hb] at h; cases h.2
  | a :: r => rw [hb] at h; cases h.1
/-- the last place that all deals have -/
def crtG (T : Nat) (f : NA) : Nat → Int32
  | 0 => cst (-1)
  | n + 1 => if 0 < T ∧ f n = T then nI n else crtG T f n
theorem cnt_all {q : Nat → Bool} : ∀ (L : List Nat) (p : Nat → Bool), L.countP (fun x => p x && q x) = L.countP p → ∀ x ∈ L, p x = true → q x = true := by
  intro L
  induction L with
  | nil => intro p _ x hx; cases hx
  | cons a r ih =>
    intro p h x hx hp
    rw [List.countP_cons, List.countP_cons] at h
    have hle : r.countP (fun x => p x && q x) ≤ r.countP p := cnt_and_le p q r
    cases hpa : p a with
    | false =>
      rw [hpa] at h
      have h : r.countP (fun x => p x && q x) + 0 = r.countP p + 0 := h
      rcases List.mem_cons.mp hx with e | e
      · subst e; rw [hpa] at hp; cases hp
      · exact ih p (by omega) x e hp
    | true =>
      cases hqa : q a with
      | false =>
        rw [hpa, hqa] at h
        have h : r.countP (fun x => p x && q x) + 0 = r.countP p + 1 := h
        omega
      | true =>
        rw [hpa, hqa] at h
        have h : r.countP (fun x => p x && q x) + 1 = r.countP p + 1 := h
        rcases List.mem_cons.mp hx with e | e
        · subst e; exact hqa
        · exact ih p (by omega) x e hp
theorem dCA_one {cl : List rl_C} {c p q : Nat} (hc : c < 9) (hp : p < 4) (hq : q < 4) (h0 : 0 < dT cl) (h1 : dCA cl c p = dT cl) (h2 : dCA cl c q = dT cl) : p = q := by
  obtain ⟨x, hx, ha⟩ := List.countP_pos_iff.mp h0
  exact one_D hx hc hp hq (cnt_all (q := fun m => (dq_hn m p).testBit c) dq_D (isA cl) h1 x hx ha) (cnt_all (q := fun m => (dq_hn m q).testBit c) dq_D (isA cl) h2 x hx ha)
theorem crt_spl {T : Nat} {f : NA} (h : ∀ p q, p < 4 → q < 4 → 0 < T → f p = T → f q = T → p = q) : crtG T f 4 = splG T f 4 0 := by
  have hno : ∀ n, (∀ p, p < n → ¬ (0 < T ∧ f p = T)) → crtG T f n = cst (-1) := by
    intro n
    induction n with
    | zero => intro _; rfl
    | succ n ih =>
      intro k
      show (if 0 < T ∧ f n = T then _ else crtG T f n) = _
      rw [if_neg (k n (Nat.lt_succ_self n)), ih (fun p hp => k p (by omega))]
  have hyes : ∀ n p, p < n → n ≤ 4 → 0 < T → f p = T → crtG T f n = nI p := by
    intro n
    induction n with
    | zero => intro p hp; omega
    | succ n ih =>
      intro p hp hn h0 hf
      show (if 0 < T ∧ f n = T then nI n else crtG T f n) = _
      by_cases q : 0 < T ∧ f n = T
      · rw [if_pos q, h n p (by omega) (by omega) h0 q.2 hf]
      · rw [if_neg q]
        refine ih p ?_ (by omega) h0 hf
        have : ¬ p = n := fun z => q ⟨h0, by rw [← z]; exact hf⟩
        omega
  rcases splG_val T f 4 0 with ⟨e, k⟩ | ⟨p, h1, h2, h3, h4, h5⟩
  · rw [e]; exact hno 4 (fun p hp => k p (by omega) (by omega))
  · rw [hyes 4 p (by omega) (by omega) h3 h4, h5]
def lastG (x : Nat) : Nat → Int32
  | 0 => cst (-1)
  | n + 1 => if x = 2 ^ n then nI n else lastG x n
theorem last_all : (List.range 16).all (fun x => decide (lastG x 4 = oplG x 4 0)) = true := by decide +kernel
theorem last_opl {x : Nat} (h : x < 16) : lastG x 4 = oplG x 4 0 := of_decide_eq_true (List.all_eq_true.mp last_all x (List.mem_range.mpr h))
