/-! p53: the deals that are left as place-sets; by rules no place of such a deal is crossed off -/
theorem isA_ag {cl : List rl_C} {m : Nat} (h : isA cl m = true) {x : rl_C} (hx : x ∈ cl) : agN x (dq_hn m x.2.1 &&& x.2.2) = true := by
  obtain ⟨k, hk⟩ := List.getElem?_of_mem hx
  have hkl : k < cl.length := (List.getElem?_eq_some_iff.mp hk).1
  have e : bdD cl m cl.length = [] := by
    unfold isA at h
    match hb : bdD cl m cl.length with
    | [] => rfl
    | a :: r => rw [hb] at h; cases h
  unfold bdD at e
  have h2 := List.filter_eq_nil_iff.mp e k (List.mem_range.mpr hkl)
  unfold agD at h2
  rw [hk] at h2
  cases ha : agN x (dq_hn m x.2.1 &&& x.2.2) with
  | true => rfl
  | false =>
    exfalso
    refine h2 ?_
    show (!agN x (dq_hn m x.2.1 &&& x.2.2)) = true
    rw [ha]; rfl
theorem isA_of {cl : List rl_C} {m : Nat} (h : ∀ x ∈ cl, agN x (dq_hn m x.2.1 &&& x.2.2) = true) : isA cl m = true := by
  have e : bdD cl m cl.length = [] := by
    unfold bdD
    refine List.filter_eq_nil_iff.mpr (fun k _ hk => ?_)
    unfold agD at hk
    cases hg : cl[k]? with
    | none => rw [hg] at hk; cases hk
    | some x =>
      rw [hg] at hk
      have h1 := h x (List.mem_of_getElem? hg)
      have hk : (!agN x (dq_hn m x.2.1 &&& x.2.2)) = true := hk
      rw [h1] at hk; cases hk
  unfold isA
  rw [e]
/-- each card at one place -/
def sgl (v : rl_V) : Prop := ∀ c, c < 9 → ∃ p, p < 4 ∧ v c = 2 ^ p
theorem p2_bit {p q : Nat} : (2 ^ p).testBit q = Nat.beq p q := by
  rw [Nat.testBit_two_pow]
  by_cases h : p = q
  · rw [decide_eq_true h, nbt h]
  · rw [decide_eq_false h, nbf h]
theorem p2_inj_all : (List.range 4).all (fun p => (List.range 4).all (fun q => (2 ^ p == 2 ^ q) == Nat.beq p q && (Nat.beq p q || Nat.beq (2 ^ p &&& (15 - 2 ^ q)) (2 ^ p)))) = true := by decide +kernel
theorem p2_inj {p q : Nat} (hp : p < 4) (hq : q < 4) : (2 ^ p == 2 ^ q) = Nat.beq p q ∧ (Nat.beq p q = false → 2 ^ p &&& (15 - 2 ^ q) = 2 ^ p) := by
  have h := List.all_eq_true.mp (List.all_eq_true.mp p2_inj_all p (List.mem_range.mpr hp)) q (List.mem_range.mpr hq)
  rw [Bool.and_eq_true, Bool.or_eq_true] at h
  refine ⟨eq_of_beq h.1, fun h2 => ?_⟩
  rcases h.2 with h3 | h3
  · rw [h2] at h3; cases h3
  · exact Nat.eq_of_beq_eq_true h3
theorem sgl_in {v : rl_V} (h : sgl v) {cards place c : Nat} (hc : c < 9) (hp : place < 4) : rl_inO v cards place c = rl_inP v cards place c := by
  obtain ⟨p, hp2, e⟩ := h c hc
  unfold rl_inO rl_inP
  rw [e, (p2_inj hp2 hp).1, p2_bit]
theorem sgl_on {v : rl_V} (h : sgl v) (cards : Nat) {place : Nat} (hp : place < 4) : rl_on v cards place = rl_ps v cards place :=
  cnt_congr _ (fun c hc => sgl_in h (List.mem_range.mp hc) hp)
theorem sgl_fix {v : rl_V} (h : sgl v) (cards : Nat) {place : Nat} (hp : place < 4) : rl_eq (rl_fix cards place v) v := by
  intro c hc
  unfold rl_fix
  split
  · rename_i hi
    obtain ⟨p, hp2, e⟩ := h c hc
    have h1 := hi.2
    unfold rl_inP at h1
    rw [Bool.and_eq_true, e, p2_bit] at h1
    have h2 := Nat.eq_of_beq_eq_true h1.2
    rw [e, h2, Nat.and_self]
  · rfl
theorem sgl_bar {v : rl_V} (h : sgl v) (cards : Nat) {place : Nat} (hp : place < 4) : rl_eq (rl_bar cards place v) v := by
  intro c hc
  unfold rl_bar
  split
  · rename_i hi
    obtain ⟨p, hp2, e⟩ := h c hc
    have h1 := hi.2
    rw [Bool.and_eq_true, e, (p2_inj hp2 hp).1, Bool.not_eq_true'] at h1
    rw [e]
    exact (p2_inj hp2 hp).2 h1.2
  · rfl
theorem sgl_kj {v : rl_V} (h : sgl v) (n cards : Nat) {place : Nat} (hp : place < 4) : rl_eq (rl_kj n cards place v) v := by
  unfold rl_kj
  split
  · exact sgl_fix h cards hp
  · exact fun c _ => rfl
theorem sgl_cs {v : rl_V} (h : sgl v) (n cards : Nat) {place : Nat} (hp : place < 4) : rl_eq (rl_cs n cards place v) v := by
  unfold rl_cs
  split
  · exact sgl_bar h cards hp
  · exact fun c _ => rfl
theorem sgl_keep {v : rl_V} (cards place : Nat) (hk : ∀ c, c < 9 → cards.testBit c = true → v c = 2 ^ place) : rl_eq (rl_keep cards place v) v := by
  intro c hc
  unfold rl_keep
  split
  · rename_i hi
    rw [hk c hc hi.2, Nat.and_self]
  · rfl
theorem sgl_lose {v : rl_V} (h : sgl v) (cards : Nat) {place : Nat} (hp : place < 4) (hk : ∀ c, c < 9 → cards.testBit c = true → ¬ v c = 2 ^ place) : rl_eq (rl_lose cards place v) v := by
  intro c hc
  unfold rl_lose
  split
  · rename_i hi
    obtain ⟨p, hp2, e⟩ := h c hc
    have h1 := hk c hc hi.2
    rw [e]
    refine (p2_inj hp2 hp).2 (nbf (fun z => h1 ?_))
    rw [e, z]
  · rfl
/-- the places of a deal -/
def qM (m : Nat) : rl_V := fun c => mkP (fun p => (dq_hn m p).testBit c) 4
theorem qM_bit (m c : Nat) {p : Nat} (hp : p < 4) : (qM m c).testBit p = (dq_hn m p).testBit c := by
  unfold qM
  rw [mkP_bit, decide_eq_true hp, Bool.true_and]
set_option maxRecDepth 1000000 in
theorem dq_sgl : dq_D.all (fun m => (List.range 9).all (fun c => (List.range 4).any (fun p => Nat.beq (qM m c) (2 ^ p)))) = true := by decide +kernel
theorem qM_sgl {m : Nat} (hm : m ∈ dq_D) : sgl (qM m) := by
  intro c hc
  have h := List.all_eq_true.mp (List.all_eq_true.mp dq_sgl m hm) c (List.mem_range.mpr hc)
  obtain ⟨p, hp, e⟩ := List.any_eq_true.mp h
  exact ⟨p, List.mem_range.mp hp, Nat.eq_of_beq_eq_true e⟩
theorem qM_ok {m : Nat} (hm : m ∈ dq_D) : rl_ok (qM m) := fun c _ => mkP_lt _ 4
theorem qM_at {m c p : Nat} (hm : m ∈ dq_D) (hc : c < 9) (hp : p < 4) : (qM m c = 2 ^ p) ↔ (dq_hn m p).testBit c = true := by
  rw [← qM_bit m c hp]
  obtain ⟨q, hq, e⟩ := qM_sgl hm c hc
  rw [e, p2_bit]
  constructor
  · intro h
    have h1 := (p2_inj hq hp).1
    rw [h] at h1
    rw [← h1]
    exact beq_self_eq_true _
  · intro h
    rw [Nat.eq_of_beq_eq_true h]
set_option maxRecDepth 1000000 in
theorem dq_cnts : dq_D.all (fun m => (List.range 3).all (fun k => Nat.beq (rl_ps (qM m) (rl_kd k) 3) 1 && Nat.beq (rl_ps (qM m) 511 k) 2)) = true := by decide +kernel
theorem qM_cnts {m k : Nat} (hm : m ∈ dq_D) (hk : k < 3) : rl_ps (qM m) (rl_kd k) 3 = 1 ∧ rl_ps (qM m) 511 k = 2 := by
  have h := List.all_eq_true.mp (List.all_eq_true.mp dq_cnts m hm) k (List.mem_range.mpr hk)
  rw [Bool.and_eq_true] at h
  exact ⟨Nat.eq_of_beq_eq_true h.1, Nat.eq_of_beq_eq_true h.2⟩
/-- a clue of the kind 0 is of one card -/
def one0 (cl : List rl_C) : Prop := ∀ x ∈ cl, x.1 = 0 → ∃ c, c < 9 ∧ x.2.2 = 2 ^ c
theorem and_p2 {x c : Nat} (h : ¬ x &&& 2 ^ c = 0) : x.testBit c = true := by
  cases hb : x.testBit c with
  | true => rfl
  | false =>
    exfalso
    refine h (Nat.eq_of_testBit_eq (fun i => ?_))
    rw [Nat.testBit_and, p2_bit, Nat.zero_testBit]
    by_cases hi : c = i
    · rw [← hi, hb]; rfl
    · rw [nbf hi, Bool.and_false]
theorem and_0_bit {x y c : Nat} (h : x &&& y = 0) (hy : y.testBit c = true) : x.testBit c = false := by
  have h1 : (x &&& y).testBit c = false := by rw [h]; exact Nat.zero_testBit c
  rw [Nat.testBit_and, hy, Bool.and_true] at h1
  exact h1
theorem and_y_bit {x y c : Nat} (h : x &&& y = y) (hy : y.testBit c = true) : x.testBit c = true := by
  have h1 : (x &&& y).testBit c = true := by rw [h]; exact hy
  rw [Nat.testBit_and, Bool.and_eq_true] at h1
  exact h1.1
theorem rl_ps_q {m : Nat} {cards place : Nat} (hp : place < 4) : rl_ps (qM m) cards place = (List.range 9).countP (fun c => (dq_hn m place &&& cards).testBit c) := by
  refine cnt_congr _ (fun c _ => ?_)
  unfold rl_inP
  rw [qM_bit m c hp, Nat.testBit_and, Bool.and_comm]
theorem p9_le {i : Nat} (h : ¬ i < 9) : 512 ≤ 2 ^ i := Nat.pow_le_pow_right (n := 2) (i := 9) (by decide) (Nat.le_of_not_lt h)
theorem cnt9_0 {x : Nat} (hx : x < 512) (h : (List.range 9).countP (fun c => x.testBit c) = 0) : x = 0 := by
  refine Nat.eq_of_testBit_eq (fun i => ?_)
  rw [Nat.zero_testBit]
  by_cases hi : i < 9
  · have h1 := List.countP_eq_zero.mp h i (List.mem_range.mpr hi)
    cases hb : x.testBit i with
    | false => rfl
    | true => exact absurd hb h1
  · exact Nat.testBit_lt_two_pow (Nat.lt_of_lt_of_le hx (p9_le hi))
theorem qM_fx {cl : List rl_C} (hok : ∀ x ∈ cl, rl_cok x) (h0 : one0 cl) {m : Nat} (hm : m ∈ dq_D) (hA : isA cl m = true) : rl_nb cl (qM m) ∧ rl_fx cl (qM m) := by
  have hs := qM_sgl hm
  have hlt : ∀ x : rl_C, dq_hn m x.2.1 &&& x.2.2 < 512 := fun x => Nat.lt_of_le_of_lt Nat.and_le_left (hn_lt m x.2.1)
  refine ⟨⟨fun c hc h => ?_, fun k hk => ?_, fun p hp => ?_, fun x hx => ⟨fun h2 => ?_, fun h4 => ?_⟩⟩, fun x hx => ?_, fun k hk => ⟨sgl_cs hs 1 _ (by decide), sgl_kj hs 1 _ (by decide)⟩, fun p hp => ⟨sgl_cs hs 2 _ (by omega), sgl_kj hs 2 _ (by omega)⟩⟩
  · obtain ⟨p, hp, e⟩ := hs c hc
    have h1 := Nat.two_pow_pos p
    omega
  · rw [sgl_on hs _ (show 3 < 4 by decide), (qM_cnts hm hk).1]
    exact ⟨Nat.le_refl _, Nat.le_refl _⟩
  · rw [sgl_on hs _ (show p < 4 by omega), (qM_cnts hm hp).2]
    exact ⟨Nat.le_refl _, Nat.le_refl _⟩
  · have ha := isA_ag hA hx
    unfold agN at ha
    rw [if_pos (Or.inr h2)] at ha
    have hne : ¬ dq_hn m x.2.1 &&& x.2.2 = 0 := fun z => by rw [nbt z] at ha; cases ha
    rw [rl_ps_q (hok x hx).2.1]
    exact Nat.pos_of_ne_zero (fun z => hne (cnt9_0 (hlt x) z))
  · have ha := isA_ag hA hx
    unfold agN at ha
    rw [if_neg (by omega), if_neg (by omega), if_pos h4] at ha
    have hne : ¬ dq_hn m x.2.1 &&& x.2.2 = x.2.2 := fun z => by rw [nbt z] at ha; cases ha
    rw [sgl_on hs _ (hok x hx).2.1]
    intro h3
    have h5 := (hok x hx).2.2.2 h4
    refine hne (Nat.eq_of_testBit_eq (fun i => ?_))
    rw [Nat.testBit_and]
    by_cases hi : i < 9
    · cases hb : x.2.2.testBit i with
      | false => rw [Bool.and_false]
      | true =>
        have h6 := rl_cnt_eq (p := rl_inP (qM m) x.2.2 x.2.1) (q := fun c => x.2.2.testBit c) (List.range 9) (fun c _ hc => by
          unfold rl_inP at hc; rw [Bool.and_eq_true] at hc; exact hc.1) (by
          have h3 : (List.range 9).countP (rl_inP (qM m) x.2.2 x.2.1) = 3 := h3
          omega) i (List.mem_range.mpr hi) hb
        unfold rl_inP at h6
        rw [qM_bit m i (hok x hx).2.1, Bool.and_eq_true] at h6
        rw [h6.2]; rfl
    · have h6 : x.2.2.testBit i = false := Nat.testBit_lt_two_pow (Nat.lt_of_lt_of_le (hok x hx).2.2.1 (p9_le hi))
      rw [h6, Bool.and_false]
  · have ha := isA_ag hA hx
    have hp := (hok x hx).2.1
    unfold agN at ha
    unfold rl_cl
    by_cases h1 : x.1 = 0 ∨ x.1 = 5
    · rw [if_pos h1]
      rcases h1 with h1 | h1
      · obtain ⟨c, hc, e⟩ := h0 x hx h1
        rw [if_pos (Or.inl h1)] at ha
        have hne : ¬ dq_hn m x.2.1 &&& x.2.2 = 0 := fun z => by rw [nbt z] at ha; cases ha
        rw [e] at hne ⊢
        refine sgl_keep _ _ (fun i hi hb => ?_)
        rw [p2_bit] at hb
        rw [← Nat.eq_of_beq_eq_true hb]
        exact (qM_at hm hc hp).mpr (and_p2 hne)
      · rw [if_neg (by omega), if_neg (by omega), if_neg (by omega)] at ha
        have he := Nat.eq_of_beq_eq_true ha
        exact sgl_keep _ _ (fun i hi hb => (qM_at hm hi hp).mpr (and_y_bit he hb))
    · rw [if_neg h1]
      by_cases h2 : x.1 = 1 ∨ x.1 = 3
      · rw [if_pos h2]
        rw [if_neg (by omega), if_pos h2] at ha
        have he := Nat.eq_of_beq_eq_true ha
        refine sgl_lose hs _ hp (fun i hi hb hq => ?_)
        have h3 := (qM_at hm hi hp).mp hq
        rw [and_0_bit he hb] at h3; cases h3
      · rw [if_neg h2]
        by_cases h3 : x.1 = 2
        · rw [if_pos h3]; exact sgl_kj hs 1 _ hp
        · rw [if_neg h3]; exact sgl_cs hs 2 _ hp
/-- what is so in a deal that is left, is so by rules -/
theorem qM_le {cl : List rl_C} (hok : ∀ x ∈ cl, rl_cok x) (h0 : one0 cl) {m : Nat} (hm : m ∈ dq_D) (hA : isA cl m = true) : shB cl = false ∧ rl_le (qM m) (shW cl) := by
  obtain ⟨h1, h2⟩ := qM_fx hok h0 hm hA
  have h3 := (rlV_E hok).1.2 (qM m) (qM_ok hm) h1 h2
  have h4 : shB cl = false := (brk_nb hok (rlV cl)).mpr (rl_nb_up hok (qM_ok hm) h3 h1)
  refine ⟨h4, ?_⟩
  unfold shW
  rw [h4]
  exact h3
theorem dT_0 {cl : List rl_C} (hok : ∀ x ∈ cl, rl_cok x) (h0 : one0 cl) (h : shB cl = true) : dT cl = 0 := by
  unfold dT
  refine List.countP_eq_zero.mpr (fun m hm hA => ?_)
  have := (qM_le hok h0 hm hA).1
  rw [this] at h; cases h
theorem sum_0 {v : rl_V} : ∀ n, (∀ c, c < n → v c = 0) → rl_sum n v = 0 := by
  intro n
  induction n with
  | zero => intro _; rfl
  | succ n ih =>
    intro h
    show rl_sum n v + rl_pc (v n) = 0
    rw [ih (fun c hc => h c (by omega)), h n (by omega)]; rfl
theorem sum_br {cl : List rl_C} (h : shB cl = true) : rl_sum 9 (shW cl) = 0 := by
  refine sum_0 9 (fun c _ => ?_)
  unfold shW
  rw [h]; rfl
theorem dCA_bit {cl : List rl_C} (hok : ∀ x ∈ cl, rl_cok x) (h0 : one0 cl) {c p : Nat} (hc : c < 9) (hp : p < 4) (h : 0 < dCA cl c p) : (shW cl c).testBit p = true := by
  obtain ⟨m, hm, hA⟩ := List.countP_pos_iff.mp h
  rw [Bool.and_eq_true] at hA
  have h1 := (qM_le hok h0 hm hA.1).2 c hc
  refine rl_sub_bit h1 ?_
  rw [qM_bit m c hp]; exact hA.2
theorem pc_bits (x : Nat) : rl_pc x = (if x.testBit 0 = true then 1 else 0) + (if x.testBit 1 = true then 1 else 0) + (if x.testBit 2 = true then 1 else 0) + (if x.testBit 3 = true then 1 else 0) := by
  have h : ∀ p, (if x.testBit p = true then 1 else 0) = x / 2 ^ p % 2 := by
    intro p
    rw [Nat.testBit_eq_decide_div_mod_eq]
    by_cases hp : x / 2 ^ p % 2 = 1
    · rw [decide_eq_true hp, if_pos rfl, hp]
    · rw [decide_eq_false hp, if_neg (by decide)]; omega
  rw [h, h, h, h]
  unfold rl_pc
  rw [Nat.pow_zero, Nat.div_one]
theorem cnt_sum {v : rl_V} {f : Nat → Bool} : ∀ n, (∀ c p, c < n → p < 4 → f (4 * c + p) = true → (v c).testBit p = true) → cntN f (4 * n) ≤ rl_sum n v := by
  intro n
  induction n with
  | zero => intro _; exact Nat.le_refl _
  | succ n ih =>
    intro h
    have i1 := ih (fun c p hc hp => h c p (by omega) hp)
    show cntN f (4 * n + 1 + 1 + 1 + 1) ≤ rl_sum n v + rl_pc (v n)
    rw [cntN_succ, cntN_succ, cntN_succ, cntN_succ, pc_bits]
    have k : ∀ p, p < 4 → (if f (4 * n + p) = true then 1 else 0) ≤ (if (v n).testBit p = true then 1 else 0) := by
      intro p hp
      by_cases hf : f (4 * n + p) = true
      · rw [if_pos hf, if_pos (h n p (by omega) hp hf)]; exact Nat.le_refl _
      · rw [if_neg hf]; exact Nat.zero_le _
    have k0 := k 0 (by decide)
    have k1 := k 1 (by decide)
    have k2 := k 2 (by decide)
    have k3 := k 3 (by decide)
    have e0 : 4 * n + 0 = 4 * n := rfl
    have e2 : 4 * n + 1 + 1 = 4 * n + 2 := rfl
    have e3 : 4 * n + 1 + 1 + 1 = 4 * n + 3 := rfl
    rw [e0] at k0
    rw [e3, e2]
    omega
theorem hid_le {cl : List rl_C} (hok : ∀ x ∈ cl, rl_cok x) (h0 : one0 cl) : cntN (fun j => Nat.blt 0 (dCA cl (j / 4) (j % 4))) 36 ≤ rl_sum 9 (shW cl) := by
  refine cnt_sum (v := shW cl) 9 (fun c p hc hp hf => ?_)
  have e1 : (4 * c + p) / 4 = c := by omega
  have e2 : (4 * c + p) % 4 = p := by omega
  rw [e1, e2] at hf
  exact dCA_bit hok h0 hc hp (Nat.le_of_ble_eq_true hf)
/-- a place by rules -/
theorem oplG_val (x : Nat) : ∀ (n i : Nat), oplG x n i = cst (-1) ∨ ∃ p, i ≤ p ∧ p < i + n ∧ x = 2 ^ p ∧ oplG x n i = nI p := by
  intro n
  induction n with
  | zero => intro i; exact Or.inl rfl
  | succ n ih =>
    intro i
    by_cases h : x = 2 ^ i
    · exact Or.inr ⟨i, Nat.le_refl _, by omega, h, if_pos h⟩
    · have e : oplG x (n + 1) i = oplG x n (i + 1) := if_neg h
      rw [e]
      rcases ih (i + 1) with h1 | ⟨p, h1, h2, h3, h4⟩
      · exact Or.inl h1
      · exact Or.inr ⟨p, by omega, by omega, h3, h4⟩
theorem opl_dCA {cl : List rl_C} (hok : ∀ x ∈ cl, rl_cok x) (h0 : one0 cl) {c p : Nat} (hc : c < 9) (hp : p < 4) (h : shW cl c = 2 ^ p) : dCA cl c p = dT cl := by
  unfold dCA dT
  refine cnt_congr _ (fun m hm => ?_)
  cases hA : isA cl m with
  | false => rfl
  | true =>
    have h1 := (qM_le hok h0 hm hA).2 c hc
    obtain ⟨q, hq, e⟩ := qM_sgl hm c hc
    rw [h, e] at h1
    have h2 : (2 ^ p).testBit q = true := rl_sub_bit h1 (by rw [p2_bit]; exact nbt rfl)
    rw [p2_bit] at h2
    rw [← Nat.eq_of_beq_eq_true h2] at e
    rw [(qM_at hm hc hp).mp e]; rfl
theorem amx_ge (f : NA) : ∀ n t, t ≤ n → f t ≤ f (amx f n) := by
  intro n
  induction n with
  | zero => intro t ht; rw [Nat.le_zero.mp ht]; exact Nat.le_refl _
  | succ n ih =>
    intro t ht
    show f t ≤ f (if f (amx f n) < f (n + 1) then n + 1 else amx f n)
    by_cases h : f (amx f n) < f (n + 1)
    · rw [if_pos h]
      by_cases h2 : t = n + 1
      · rw [h2]; exact Nat.le_refl _
      · have := ih t (by omega); omega
    · rw [if_neg h]
      by_cases h2 : t = n + 1
      · rw [h2]; omega
      · exact ih t (by omega)
theorem amn_ge (f : NA) : ∀ n t, t ≤ n → f (amn f n) ≤ f t := by
  intro n
  induction n with
  | zero => intro t ht; rw [Nat.le_zero.mp ht]; exact Nat.le_refl _
  | succ n ih =>
    intro t ht
    show f (if f (n + 1) < f (amn f n) then n + 1 else amn f n) ≤ f t
    by_cases h : f (n + 1) < f (amn f n)
    · rw [if_pos h]
      by_cases h2 : t = n + 1
      · rw [h2]; exact Nat.le_refl _
      · have := ih t (by omega); omega
    · rw [if_neg h]
      by_cases h2 : t = n + 1
      · rw [h2]; omega
      · exact ih t (by omega)
