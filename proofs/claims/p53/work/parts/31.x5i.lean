/-! the counts: what is asked of them, said of the deals themselves -/
theorem splG_congr {T : Nat} {f g : NA} : ∀ (n i : Nat), (∀ p, i ≤ p → p < i + n → f p = g p) → splG T f n i = splG T g n i := by
  intro n
  induction n with
  | zero => intro i _; rfl
  | succ n ih =>
    intro i h
    show (if 0 < T ∧ f i = T then nI i else splG T f n (i + 1)) = (if 0 < T ∧ g i = T then nI i else splG T g n (i + 1))
    rw [h i (by omega) (by omega), ih (i + 1) (fun p h1 h2 => h p (by omega) (by omega))]
theorem spB_congr {T : Nat} {f g : NA} (h : ∀ p, p < 4 → f p = g p) : spB T f = spB T g := by
  unfold spB
  congr 1
  rw [Bool.eq_iff_iff, List.any_eq_true, List.any_eq_true]
  constructor
  · rintro ⟨p, h1, h2⟩; exact ⟨p, h1, by rw [← h p (List.mem_range.mp h1)]; exact h2⟩
  · rintro ⟨p, h1, h2⟩; exact ⟨p, h1, by rw [h p (List.mem_range.mp h1)]; exact h2⟩
theorem cntN_congr {p q : Nat → Bool} {n : Nat} (h : ∀ i, i < n → p i = q i) : cntN p n = cntN q n := cnt_congr _ (fun i hi => h i (List.mem_range.mp hi))
theorem amx_congr {f g : NA} : ∀ n, (∀ i, i ≤ n → f i = g i) → amx f n = amx g n := by
  intro n
  induction n with
  | zero => intro _; rfl
  | succ n ih =>
    intro h
    show (if f (amx f n) < f (n + 1) then n + 1 else amx f n) = (if g (amx g n) < g (n + 1) then n + 1 else amx g n)
    have hl := amx_le g n
    rw [ih (fun i hi => h i (by omega)), h (n + 1) (Nat.le_refl _), h (amx g n) (by omega)]
theorem amn_congr {f g : NA} : ∀ n, (∀ i, i ≤ n → f i = g i) → amn f n = amn g n := by
  intro n
  induction n with
  | zero => intro _; rfl
  | succ n ih =>
    intro h
    show (if f (n + 1) < f (amn f n) then n + 1 else amn f n) = (if g (n + 1) < g (amn g n) then n + 1 else amn g n)
    have hl := amn_le g n
    rw [ih (fun i hi => h i (by omega)), h (n + 1) (Nat.le_refl _), h (amn g n) (by omega)]
theorem iS_congr {g h : NA} : ∀ (n s : Nat), (∀ j, s ≤ j → j < s + n → g j = h j) → iS g s n = iS h s n := by
  intro n
  induction n with
  | zero => intro s _; rfl
  | succ n ih =>
    intro s k
    show iS g s n + g (s + n) = iS h s n + h (s + n)
    rw [ih s (fun j h1 h2 => k j h1 (by omega)), k (s + n) (by omega) (by omega)]
theorem oS_congr {g h : Nat → NA} : ∀ n, n ≤ 9 → (∀ f s, f < n → f < s → s < 9 → g f s = h f s) → oS g n = oS h n := by
  intro n
  induction n with
  | zero => intro _ _; rfl
  | succ n ih =>
    intro hn k
    show oS g n + iS (g n) (n + 1) (8 - n) = oS h n + iS (h n) (n + 1) (8 - n)
    rw [ih (by omega) (fun f s h1 h2 h3 => k f s (by omega) h2 h3), iS_congr (8 - n) (n + 1) (fun j h1 h2 => k n j (by omega) (by omega) (by omega))]
/-- deals left in which a player has none of a triple's cards -/
def wnN (cl : List rl_C) (p t : Nat) : Nat := dq_D.countP (fun m => isA cl m && Nat.beq (dq_hn m p &&& dq_mask t) 0)
theorem is2_all : (List.range 512).all (fun x => !dq_is2 x || dq_prs.contains x) = true := by decide +kernel
set_option maxRecDepth 1000000 in
theorem dq_2all : dq_D.all (fun m => dq_is2 (dq_hn m 0) && dq_is2 (dq_hn m 1) && dq_is2 (dq_hn m 2)) = true := by decide +kernel
theorem prs_1 : dq_prs.all (fun y => Nat.beq (dq_prs.countP (fun x => Nat.beq y x)) 1) = true := by decide +kernel
theorem hand_prs {m p : Nat} (hm : m ∈ dq_D) (hp : p < 3) : dq_hn m p ∈ dq_prs := by
  have h := List.all_eq_true.mp dq_2all m hm
  rw [Bool.and_eq_true, Bool.and_eq_true] at h
  have h2 : dq_is2 (dq_hn m p) = true := by
    have h3 : p = 0 ∨ p = 1 ∨ p = 2 := by omega
    rcases h3 with rfl | rfl | rfl
    · exact h.1.1
    · exact h.1.2
    · exact h.2
  have h4 := List.all_eq_true.mp is2_all _ (List.mem_range.mpr (hn_lt m p))
  rw [h2] at h4
  exact List.contains_iff_mem.mp h4
theorem smL_add {α : Type} (g h : α → Nat) : ∀ l : List α, smL (fun x => g x + h x) l = smL g l + smL h l := by
  intro l
  induction l with
  | nil => rfl
  | cons a r ih => show g a + h a + smL _ r = g a + smL g r + (h a + smL h r); rw [ih]; omega
theorem smL_0 {α : Type} : ∀ l : List α, smL (fun _ => 0) l = 0 := by
  intro l
  induction l with
  | nil => rfl
  | cons a r ih => show 0 + smL _ r = 0; rw [ih]
/-- counted by hands, as counted by deals -/
theorem swap_cnt (q : Nat → Bool) (h : Nat → Nat) (l : List Nat) : ∀ Dl : List Nat, (∀ m ∈ Dl, l.countP (fun x => Nat.beq (h m) x) ≤ 1) →
    smL (fun x => Dl.countP (fun m => q m && Nat.beq (h m) x)) l = Dl.countP (fun m => q m && Nat.beq (l.countP (fun x => Nat.beq (h m) x)) 1) := by
  intro Dl
  induction Dl with
  | nil => intro _; exact smL_0 l
  | cons m r ih =>
    intro k
    have h1 := k m List.mem_cons_self
    have e : (fun x => (m :: r).countP (fun m => q m && Nat.beq (h m) x)) = fun x => r.countP (fun m => q m && Nat.beq (h m) x) + (bif q m && Nat.beq (h m) x then 1 else 0) := by
      funext x
      rw [List.countP_cons]
      cases (q m && Nat.beq (h m) x) <;> rfl
    rw [e, smL_add, ih (fun m hm => k m (List.mem_cons_of_mem _ hm)), List.countP_cons, smL_cnt (fun x => q m && Nat.beq (h m) x)]
    congr 1
    cases q m with
    | false =>
      show l.countP (fun _ => false) = _
      rw [List.countP_false]; rfl
    | true =>
      show l.countP (fun x => Nat.beq (h m) x) = _
      by_cases h0 : l.countP (fun x => Nat.beq (h m) x) = 1
      · rw [nbt h0, h0]; rfl
      · rw [nbf h0]; show _ = 0; omega
theorem wnS_val {cl : List rl_C} {wh : NA} {p t : Nat} (hp : p < 3) (hw : ∀ s, s < 512 → wh (512 * p + s) = dWH cl p s) : wnS wh p t = wnN cl p t := by
  unfold wnS
  have e1 : oS (wnT wh p (dq_mask t)) 9 = oS (fun f s => (fun x => bif Nat.beq (x &&& dq_mask t) 0 then dWH cl p x else 0) (2 ^ f + 2 ^ s)) 9 := by
    refine oS_congr 9 (Nat.le_refl _) (fun f s h1 h2 h3 => ?_)
    unfold wnT
    rw [hw _ (two_lt h1 h3), two_or h2 h3]
  rw [e1, oS_prs (fun x => bif Nat.beq (x &&& dq_mask t) 0 then dWH cl p x else 0), smL_filter (fun x => Nat.beq (x &&& dq_mask t) 0) (dWH cl p)]
  have hfil : ∀ m ∈ dq_D, (dq_prs.filter (fun x => Nat.beq (x &&& dq_mask t) 0)).countP (fun x => Nat.beq (dq_hn m p) x) = (if Nat.beq (dq_hn m p &&& dq_mask t) 0 = true then 1 else 0) := by
    intro m hm
    have h1 := Nat.eq_of_beq_eq_true (List.all_eq_true.mp prs_1 _ (hand_prs hm hp))
    rw [List.countP_filter]
    by_cases h0 : Nat.beq (dq_hn m p &&& dq_mask t) 0 = true
    · rw [if_pos h0, ← h1]
      refine cnt_congr _ (fun x _ => ?_)
      by_cases hx : dq_hn m p = x
      · rw [nbt hx, ← hx, h0]; rfl
      · rw [nbf hx]; rfl
    · rw [if_neg h0, List.countP_eq_zero]
      intro x _ hx
      rw [Bool.and_eq_true] at hx
      have e := Nat.eq_of_beq_eq_true hx.1
      rw [← e] at hx
      exact h0 hx.2
  refine (swap_cnt (isA cl) (fun m => dq_hn m p) (dq_prs.filter (fun x => Nat.beq (x &&& dq_mask t) 0)) dq_D (fun m hm => by rw [hfil m hm]; split <;> omega)).trans ?_
  unfold wnN
  refine cnt_congr _ (fun m hm => ?_)
  rw [hfil m hm]
  cases Nat.beq (dq_hn m p &&& dq_mask t) 0 <;> rfl
theorem cnt_and_le (p q : Nat → Bool) (l : List Nat) : l.countP (fun m => p m && q m) ≤ l.countP p := rl_cnt_le l (fun x _ h => by rw [Bool.and_eq_true] at h; exact h.1)
set_option maxRecDepth 1000000 in
theorem dq_len : dq_D.length = 2430 := by decide +kernel
theorem dT_le (cl : List rl_C) : dT cl ≤ 2430 := dq_len ▸ List.countP_le_length
theorem dCA_le (cl : List rl_C) (c p : Nat) : dCA cl c p ≤ dT cl := cnt_and_le _ _ _
theorem dIE_le (cl : List rl_C) (t : Nat) : dIE cl t ≤ dT cl := cnt_and_le _ _ _
theorem dWH_le (cl : List rl_C) (p s : Nat) : dWH cl p s ≤ dT cl := cnt_and_le _ _ _
theorem wnN_le (cl : List rl_C) (p t : Nat) : wnN cl p t ≤ dT cl := cnt_and_le _ _ _
theorem dHB_le (cl : List rl_C) (k : Nat) : dHB cl k ≤ 2430 := dq_len ▸ List.countP_le_length
