/-! p53: the master's deal is one of the deals -/
set_option maxRecDepth 100000 in
theorem itr_all : (List.range 512).all (fun x => !itr x 3 || (List.range 27).any (fun t => Nat.beq x (dq_mask t))) = true := by decide +kernel
theorem itr_mask {x : Nat} (hx : x < 512) (h : itr x 3 = true) : ∃ t, t < 27 ∧ x = dq_mask t := by
  have k := List.all_eq_true.mp itr_all x (List.mem_range.mpr hx)
  rw [h] at k
  have k : (List.range 27).any (fun t => Nat.beq x (dq_mask t)) = true := k
  obtain ⟨t, ht, e⟩ := List.any_eq_true.mp k
  exact ⟨t, List.mem_range.mp ht, Nat.eq_of_beq_eq_true e⟩
theorem mkP_s {p : Nat → Bool} {n : Nat} (hn : n < 9) : mkP p (n + 1) = mkP p n + (bif p n then 2 ^ n else 0) := by
  show mkP p n ||| (bif p n then 2 ^ n else 0) = _
  cases p n with
  | true => exact (ors_ok hn (mkP_lt p n)).1
  | false => exact Nat.or_zero _
theorem mkP_add {p q : Nat → Bool} : ∀ n, n ≤ 9 → (∀ c, c < n → (p c && q c) = false) → mkP (fun c => p c || q c) n = mkP p n + mkP q n := by
  intro n
  induction n with
  | zero => intro _ _; rfl
  | succ n ih =>
    intro hn h
    rw [mkP_s (by omega), mkP_s (p := p) (by omega), mkP_s (p := q) (by omega), ih (by omega) (fun c hc => h c (by omega))]
    have h1 := h n (by omega)
    show mkP p n + mkP q n + (bif p n || q n then 2 ^ n else 0) = _
    cases hp : p n with
    | true =>
      cases hqn : q n with
      | true => rw [hp, hqn] at h1; cases h1
      | false => show mkP p n + mkP q n + 2 ^ n = mkP p n + 2 ^ n + (mkP q n + 0); omega
    | false =>
      cases hqn : q n with
      | true => show mkP p n + mkP q n + 2 ^ n = mkP p n + 0 + (mkP q n + 2 ^ n); omega
      | false => show mkP p n + mkP q n + 0 = mkP p n + 0 + (mkP q n + 0); omega
theorem mkP_one {p : Nat → Bool} : ∀ n, n ≤ 9 → (∀ c, c < n → p c = true) → mkP p n + 1 = 2 ^ n := by
  intro n
  induction n with
  | zero => intro _ _; rfl
  | succ n ih =>
    intro hn h
    have i1 := ih (by omega) (fun c hc => h c (by omega))
    rw [mkP_s (by omega), h n (by omega), Nat.pow_succ]
    show mkP p n + 2 ^ n + 1 = _
    omega
theorem mkP_and {p q : Nat → Bool} (h : ∀ c, p c = true → q c = true) : mkP q 9 &&& mkP p 9 = mkP p 9 := by
  refine Nat.eq_of_testBit_eq (fun i => ?_)
  rw [Nat.testBit_and, mkP_bit, mkP_bit]
  cases hp : p i with
  | false => rw [Bool.and_false, Bool.and_false]
  | true => rw [h i hp]; exact Bool.and_self _
theorem prs2_all : (List.range 512).all (fun x => !Nat.beq (pcN x) 2 || dq_prs.contains x) = true := by decide +kernel
theorem prs2 {x : Nat} (hx : x < 512) (h : pcN x = 2) : x ∈ dq_prs := by
  have k := List.all_eq_true.mp prs2_all x (List.mem_range.mpr hx)
  rw [nbt h] at k
  exact List.contains_iff_mem.mp k
def qB (q : NA) (p : Nat) : Nat → Bool := fun c => Nat.beq (q c) p
theorem beq_ne {a b c : Nat} (h : ¬ b = c) : (Nat.beq a b && Nat.beq a c) = false := by
  by_cases h1 : a = b
  · rw [nbf (show ¬ a = c by rw [h1]; exact h), Bool.and_false]
  · rw [nbf h1]; rfl
theorem hn_4 {f : Nat → Nat} (h0 : f 0 < 512) (h1 : f 1 < 512) (h2 : f 2 < 512) (h3 : f 3 < 512) : ∀ p, p < 4 → dq_hn (dq_4 (f 0) (f 1) (f 2) (f 3)) p = f p := by
  intro p hp
  unfold dq_hn dq_4
  have h5 : p = 0 ∨ p = 1 ∨ p = 2 ∨ p = 3 := by omega
  rcases h5 with rfl | rfl | rfl | rfl
  · show (f 0 + 512 * (f 1 + 512 * (f 2 + 512 * f 3))) / 1 % 512 = f 0
    omega
  · show (f 0 + 512 * (f 1 + 512 * (f 2 + 512 * f 3))) / 512 % 512 = f 1
    omega
  · show (f 0 + 512 * (f 1 + 512 * (f 2 + 512 * f 3))) / 262144 % 512 = f 2
    omega
  · show (f 0 + 512 * (f 1 + 512 * (f 2 + 512 * f 3))) / 134217728 % 512 = f 3
    omega
theorem mast_in {q : NA} (h : okQ q) (h2 : ∀ p, p < 3 → pcN (hq q p) = 2) : ∃ m, m ∈ dq_D ∧ ∀ p, p < 4 → dq_hn m p = hq q p := by
  obtain ⟨t, ht, et⟩ := itr_mask (hq_lt q 3) h.2
  have e12 : mkP (fun c => qB q 1 c || qB q 2 c) 9 = hq q 1 + hq q 2 := mkP_add (p := qB q 1) (q := qB q 2) 9 (Nat.le_refl _) (fun c _ => beq_ne (by decide))
  have e012 : mkP (fun c => qB q 0 c || (qB q 1 c || qB q 2 c)) 9 = hq q 0 + (hq q 1 + hq q 2) := by
    rw [← e12]
    refine mkP_add (p := qB q 0) (q := fun c => qB q 1 c || qB q 2 c) 9 (Nat.le_refl _) (fun c _ => ?_)
    show (qB q 0 c && (qB q 1 c || qB q 2 c)) = false
    rw [Bool.and_or_distrib_left]
    show (Nat.beq (q c) 0 && Nat.beq (q c) 1 || Nat.beq (q c) 0 && Nat.beq (q c) 2) = false
    rw [beq_ne (by decide), beq_ne (by decide)]; rfl
  have eall : mkP (fun c => (qB q 0 c || (qB q 1 c || qB q 2 c)) || qB q 3 c) 9 = hq q 0 + (hq q 1 + hq q 2) + hq q 3 := by
    rw [← e012]
    refine mkP_add (p := fun c => qB q 0 c || (qB q 1 c || qB q 2 c)) (q := qB q 3) 9 (Nat.le_refl _) (fun c _ => ?_)
    show ((qB q 0 c || (qB q 1 c || qB q 2 c)) && qB q 3 c) = false
    rw [Bool.and_or_distrib_right, Bool.and_or_distrib_right]
    show (Nat.beq (q c) 0 && Nat.beq (q c) 3 || (Nat.beq (q c) 1 && Nat.beq (q c) 3 || Nat.beq (q c) 2 && Nat.beq (q c) 3)) = false
    rw [beq_ne (by decide), beq_ne (by decide), beq_ne (by decide)]; rfl
  have e511 := mkP_one (p := fun c => (qB q 0 c || (qB q 1 c || qB q 2 c)) || qB q 3 c) 9 (Nat.le_refl _) (fun c hc => by
    have h4 := h.1 c hc
    show ((Nat.beq (q c) 0 || (Nat.beq (q c) 1 || Nat.beq (q c) 2)) || Nat.beq (q c) 3) = true
    have h5 : q c = 0 ∨ q c = 1 ∨ q c = 2 ∨ q c = 3 := by omega
    rcases h5 with e | e | e | e <;> rw [e] <;> rfl)
  rw [eall] at e511
  have e511 : hq q 0 + (hq q 1 + hq q 2) + hq q 3 + 1 = 512 := e511
  have a0 : mkP (fun c => qB q 0 c || (qB q 1 c || qB q 2 c)) 9 &&& hq q 0 = hq q 0 := mkP_and (p := qB q 0) (fun c hc => by
    show (qB q 0 c || _) = true
    rw [hc]; rfl)
  have a1 : mkP (fun c => qB q 1 c || qB q 2 c) 9 &&& hq q 1 = hq q 1 := mkP_and (p := qB q 1) (fun c hc => by
    show (qB q 1 c || _) = true
    rw [hc]; rfl)
  rw [e012] at a0
  rw [e12] at a1
  refine ⟨dq_4 (hq q 0) (hq q 1) (hq q 2) (hq q 3), dq_perm3.mem_iff.mp ?_, fun p hp => ?_⟩
  · refine List.mem_flatMap.mpr ⟨t, List.mem_range.mpr ht, ?_⟩
    rw [← et]
    unfold dq_3of
    refine List.mem_flatMap.mpr ⟨hq q 0, ?_, List.mem_map.mpr ⟨hq q 1, ?_, ?_⟩⟩
    · unfold dq_fit
      refine List.mem_filter.mpr ⟨prs2 (hq_lt q 0) (h2 0 (by decide)), nbt ?_⟩
      rw [show 511 - hq q 3 = hq q 0 + (hq q 1 + hq q 2) by omega]; exact a0
    · unfold dq_fit
      refine List.mem_filter.mpr ⟨prs2 (hq_lt q 1) (h2 1 (by decide)), nbt ?_⟩
      rw [show 511 - hq q 3 - hq q 0 = hq q 1 + hq q 2 by omega]; exact a1
    · rw [show 511 - hq q 3 - hq q 0 - hq q 1 = hq q 2 by omega, show 511 - (511 - hq q 3) = hq q 3 by omega]
  · exact hn_4 (f := fun p => hq q p) (hq_lt q 0) (hq_lt q 1) (hq_lt q 2) (hq_lt q 3) p hp
/-- what is so of each state that the law makes -/
def okM (a : SA) : Prop := one0 a.1 ∧ ∀ p, p < 3 → pcN (hq a.2.1 p) = 2
theorem okA_rl {a : SA} (h : okA a) : ∀ x ∈ a.1, rl_cok x := fun x hx => (h.2.1 x hx).1
theorem untrue_0 {a : SA} (ok : okA a) (om : okM a) (h : cntN (fun k => !agG a k) a.1.length = 0) : 0 < dT a.1 ∧ shB a.1 = false ∧ ntr (hq a.2.1 3) 9 < 27 ∧ 0 < dIE a.1 (ntr (hq a.2.1 3) 9) := by
  obtain ⟨m, hm, hh⟩ := mast_in ok.2.2.1 om.2
  obtain ⟨t, ht, et⟩ := itr_mask (hq_lt a.2.1 3) ok.2.2.1.2
  have hA : isA a.1 m = true := isA_of (fun x hx => by
    obtain ⟨k, hk⟩ := List.getElem?_of_mem hx
    have hkl : k < a.1.length := (List.getElem?_eq_some_iff.mp hk).1
    have h1 := List.countP_eq_zero.mp h k (List.mem_range.mpr hkl)
    have e : clG a k = x := by
      unfold clG
      rw [List.getD_eq_getElem?_getD, hk]; rfl
    rw [hh _ (okA_rl ok x hx).2.1]
    have h1 : ¬ (!agG a k) = true := h1
    unfold agG at h1
    rw [e] at h1
    cases hb : agN x (hq a.2.1 x.2.1 &&& x.2.2) with
    | true => rfl
    | false => rw [hb] at h1; exact absurd rfl h1)
  refine ⟨List.countP_pos_iff.mpr ⟨m, hm, hA⟩, (qM_le (okA_rl ok) om.1 hm hA).1, by rw [et, ntr_mask ht]; exact ht, List.countP_pos_iff.mpr ⟨m, hm, ?_⟩⟩
  rw [et, ntr_mask ht, hA, hh 3 (by decide), et]
  exact nbt rfl
