/-! the rules: whatever the order, the same places are left (or both orders break down) -/
abbrev rl_V : Type := Nat → Nat
abbrev rl_C : Type := Nat × Nat × Nat
def rl_ok (v : rl_V) : Prop := ∀ c, c < 9 → v c < 16
def rl_sub (x y : Nat) : Bool := x &&& y == x
def rl_le (q v : rl_V) : Prop := ∀ c, c < 9 → rl_sub (q c) (v c) = true
def rl_eq (q v : rl_V) : Prop := ∀ c, c < 9 → q c = v c
def rl_inP (v : rl_V) (cards place c : Nat) : Bool := cards.testBit c && (v c).testBit place
def rl_inO (v : rl_V) (cards place c : Nat) : Bool := cards.testBit c && v c == 2 ^ place
def rl_ps (v : rl_V) (cards place : Nat) : Nat := (List.range 9).countP (rl_inP v cards place)
def rl_on (v : rl_V) (cards place : Nat) : Nat := (List.range 9).countP (rl_inO v cards place)
def rl_keep (cards place : Nat) (v : rl_V) : rl_V := fun c => if c < 9 ∧ cards.testBit c = true then v c &&& 2 ^ place else v c
def rl_lose (cards place : Nat) (v : rl_V) : rl_V := fun c => if c < 9 ∧ cards.testBit c = true then v c &&& (15 - 2 ^ place) else v c
def rl_fix (cards place : Nat) (v : rl_V) : rl_V := fun c => if c < 9 ∧ rl_inP v cards place c = true then v c &&& 2 ^ place else v c
def rl_bar (cards place : Nat) (v : rl_V) : rl_V := fun c => if c < 9 ∧ (cards.testBit c && !(v c == 2 ^ place)) = true then v c &&& (15 - 2 ^ place) else v c
def rl_kj (n cards place : Nat) (v : rl_V) : rl_V := if rl_ps v cards place = n then rl_fix cards place v else v
def rl_cs (n cards place : Nat) (v : rl_V) : rl_V := if rl_on v cards place = n then rl_bar cards place v else v
def rl_cp (cards place : Nat) (v : rl_V) : rl_V := if 0 < rl_on v cards place then rl_bar cards place v else v
def rl_cl (x : rl_C) (v : rl_V) : rl_V :=
  if x.1 = 0 ∨ x.1 = 5 then rl_keep x.2.2 x.2.1 v
  else if x.1 = 1 ∨ x.1 = 3 then rl_lose x.2.2 x.2.1 v
  else if x.1 = 2 then rl_kj 1 x.2.2 x.2.1 v
  else rl_cs 2 x.2.2 x.2.1 v
def rl_kd (k : Nat) : Nat := 7 * 8 ^ k
/-- a clue as it can be noted -/
def rl_cok (x : rl_C) : Prop := x.1 < 6 ∧ x.2.1 < 4 ∧ x.2.2 < 512 ∧ (x.1 = 4 → (List.range 9).countP (fun c => x.2.2.testBit c) = 3)
def rl_nb (cl : List rl_C) (v : rl_V) : Prop :=
  (∀ c, c < 9 → v c ≠ 0) ∧ (∀ k, k < 3 → 1 ≤ rl_ps v (rl_kd k) 3 ∧ rl_on v (rl_kd k) 3 ≤ 1) ∧ (∀ p, p < 3 → 2 ≤ rl_ps v 511 p ∧ rl_on v 511 p ≤ 2) ∧
  ∀ x ∈ cl, (x.1 = 2 → 1 ≤ rl_ps v x.2.2 x.2.1) ∧ (x.1 = 4 → rl_on v x.2.2 x.2.1 ≠ 3)
def rl_fx (cl : List rl_C) (v : rl_V) : Prop :=
  (∀ x ∈ cl, rl_eq (rl_cl x v) v) ∧ (∀ k, k < 3 → rl_eq (rl_cs 1 (rl_kd k) 3 v) v ∧ rl_eq (rl_kj 1 (rl_kd k) 3 v) v) ∧ (∀ p, p < 3 → rl_eq (rl_cs 2 511 p v) v ∧ rl_eq (rl_kj 2 511 p v) v)
/-- a step that crosses off only, and nothing that a steady place-set below has -/
def rl_good (cl : List rl_C) (f : rl_V → rl_V) : Prop := ∀ v, rl_ok v → rl_ok (f v) ∧ rl_le (f v) v ∧ ∀ q, rl_ok q → rl_nb cl q → rl_fx cl q → rl_le q v → rl_le q (f v)
theorem rl_all2 {P : Nat → Nat → Bool} (h : (List.range 16).all (fun x => (List.range 16).all (fun y => P x y)) = true) {x y : Nat} (hx : x < 16) (hy : y < 16) : P x y = true :=
  List.all_eq_true.mp (List.all_eq_true.mp h x (List.mem_range.mpr hx)) y (List.mem_range.mpr hy)
theorem rl_sub_trans {x y z : Nat} (h1 : rl_sub x y = true) (h2 : rl_sub y z = true) : rl_sub x z = true := by
  unfold rl_sub at *
  have h1 := eq_of_beq h1
  have h2 := eq_of_beq h2
  rw [← h1, Nat.and_assoc, h2]
  exact beq_self_eq_true _
theorem rl_sub_refl (x : Nat) : rl_sub x x = true := by
  unfold rl_sub; rw [Nat.and_self]; exact beq_self_eq_true _
theorem rl_sub_and (x y : Nat) : rl_sub (x &&& y) x = true := by
  unfold rl_sub; rw [Nat.and_comm x y, Nat.and_assoc, Nat.and_self]; exact beq_self_eq_true _
theorem rl_sub_of_and {x y z : Nat} (h1 : rl_sub x y = true) (h2 : x &&& z = x) : rl_sub x (y &&& z) = true := by
  unfold rl_sub at *
  have h1 := eq_of_beq h1
  rw [← Nat.and_assoc, h1, h2]
  exact beq_self_eq_true _
theorem rl_and_lt {x y : Nat} (h : x < 16) : x &&& y < 16 := Nat.lt_of_le_of_lt Nat.and_le_left h
theorem rl_le_refl (v : rl_V) : rl_le v v := fun c _ => rl_sub_refl _
theorem rl_le_trans {u v w : rl_V} (h1 : rl_le u v) (h2 : rl_le v w) : rl_le u w := fun c hc => rl_sub_trans (h1 c hc) (h2 c hc)
theorem rl_sub_bit {x y p : Nat} (h : rl_sub x y = true) (hb : x.testBit p = true) : y.testBit p = true := by
  unfold rl_sub at h
  have h := eq_of_beq h
  rw [← h, Nat.testBit_and, Bool.and_eq_true] at hb
  exact hb.2
/-- counting: where fewer hold, and as many, the same hold -/
theorem rl_cnt_le {p q : Nat → Bool} : ∀ l : List Nat, (∀ x ∈ l, p x = true → q x = true) → l.countP p ≤ l.countP q := by
  intro l
  induction l with
  | nil => intro _; exact Nat.le_refl _
  | cons a r ih =>
    intro h
    have h1 := ih (fun x hx => h x (List.mem_cons_of_mem _ hx))
    have h2 := h a List.mem_cons_self
    rw [List.countP_cons, List.countP_cons]
    cases hp : p a with
    | false => simp only [Bool.false_eq_true, if_false]; split <;> omega
    | true => rw [h2 hp]; simp only [if_true]; omega
theorem rl_cnt_eq {p q : Nat → Bool} : ∀ l : List Nat, (∀ x ∈ l, p x = true → q x = true) → l.countP q ≤ l.countP p → ∀ x ∈ l, q x = true → p x = true := by
  intro l
  induction l with
  | nil => intro _ _ x hx; cases hx
  | cons a r ih =>
    intro h hc x hx hq
    have h1 : ∀ x ∈ r, p x = true → q x = true := fun x hx => h x (List.mem_cons_of_mem _ hx)
    have h2 := rl_cnt_le r h1
    have h3 := h a List.mem_cons_self
    rw [List.countP_cons, List.countP_cons] at hc
    cases hp : p a with
    | false =>
      rw [hp] at hc
      cases hqa : q a with
      | true => rw [hqa] at hc; simp only [Bool.false_eq_true, if_false, if_true] at hc; omega
      | false =>
        rw [hqa] at hc
        simp only [Bool.false_eq_true, if_false] at hc
        rcases List.mem_cons.mp hx with e | e
        · rw [e, hqa] at hq; cases hq
        · exact ih h1 (by omega) x e hq
    | true =>
      rw [hp, h3 hp] at hc
      simp only [if_true] at hc
      rcases List.mem_cons.mp hx with e | e
      · rw [e]; exact hp
      · exact ih h1 (by omega) x e hq
theorem rl_P_mono {q v : rl_V} (h : rl_le q v) (cards place : Nat) : ∀ c ∈ List.range 9, rl_inP q cards place c = true → rl_inP v cards place c = true := by
  intro c hc hq
  unfold rl_inP at *
  rw [Bool.and_eq_true] at *
  exact ⟨hq.1, rl_sub_bit (h c (List.mem_range.mp hc)) hq.2⟩
theorem rl_t1 {x y p : Nat} (hx : x < 16) (hp : p < 4) (h0 : x ≠ 0) (h : rl_sub x (2 ^ p) = true) : x = 2 ^ p := by
  have h4 : p = 0 ∨ p = 1 ∨ p = 2 ∨ p = 3 := by omega
  have key : ((List.range 16).all (fun x => (List.range 4).all (fun p => x == 0 || !rl_sub x (2 ^ p) || x == 2 ^ p))) = true := by decide +kernel
  have k1 := List.all_eq_true.mp (List.all_eq_true.mp key x (List.mem_range.mpr hx)) p (List.mem_range.mpr hp)
  rw [h] at k1
  simp only [Bool.not_true, Bool.or_false, Bool.or_eq_true, beq_iff_eq] at k1
  exact k1.resolve_left h0
theorem rl_O_mono {q v : rl_V} (hq : rl_ok q) (h0 : ∀ c, c < 9 → q c ≠ 0) (h : rl_le q v) (cards : Nat) {place : Nat} (hp : place < 4) : ∀ c ∈ List.range 9, rl_inO v cards place c = true → rl_inO q cards place c = true := by
  intro c hc hv
  have hc := List.mem_range.mp hc
  unfold rl_inO at *
  rw [Bool.and_eq_true, beq_iff_eq] at *
  refine ⟨hv.1, ?_⟩
  have h1 := h c hc
  rw [hv.2] at h1
  exact rl_t1 (y := 0) (hq c hc) hp (h0 c hc) h1
/-- the two kinds of steps -/
theorem rl_fix_good {v : rl_V} (hv : rl_ok v) (cards place : Nat) : rl_ok (rl_fix cards place v) ∧ rl_le (rl_fix cards place v) v := by
  refine ⟨fun c hc => ?_, fun c hc => ?_⟩
  · unfold rl_fix; split
    · exact rl_and_lt (hv c hc)
    · exact hv c hc
  · unfold rl_fix; split
    · exact rl_sub_and _ _
    · exact rl_sub_refl _
theorem rl_bar_good {v : rl_V} (hv : rl_ok v) (cards place : Nat) : rl_ok (rl_bar cards place v) ∧ rl_le (rl_bar cards place v) v := by
  refine ⟨fun c hc => ?_, fun c hc => ?_⟩
  · unfold rl_bar; split
    · exact rl_and_lt (hv c hc)
    · exact hv c hc
  · unfold rl_bar; split
    · exact rl_sub_and _ _
    · exact rl_sub_refl _
theorem rl_kj_good {cl : List rl_C} {n cards place : Nat} (hnb : ∀ q, rl_ok q → rl_nb cl q → n ≤ rl_ps q cards place) (hfx : ∀ q, rl_fx cl q → rl_eq (rl_kj n cards place q) q) : rl_good cl (rl_kj n cards place) := by
  intro v hv
  by_cases hn : rl_ps v cards place = n
  · have e : rl_kj n cards place v = rl_fix cards place v := if_pos hn
    rw [e]
    refine ⟨(rl_fix_good hv cards place).1, (rl_fix_good hv cards place).2, fun q hq h1 h2 h3 c hc => ?_⟩
    unfold rl_fix
    split
    · rename_i hi
      have k1 := rl_cnt_le (List.range 9) (rl_P_mono h3 cards place)
      have k2 := hnb q hq h1
      have k3 : rl_ps q cards place = n := Nat.le_antisymm (by unfold rl_ps at *; omega) k2
      have k4 := rl_cnt_eq (List.range 9) (rl_P_mono h3 cards place) (by unfold rl_ps at *; omega) c (List.mem_range.mpr hc) hi.2
      have k5 := hfx q h2 c hc
      have e2 : rl_kj n cards place q = rl_fix cards place q := if_pos k3
      rw [e2] at k5
      unfold rl_fix at k5
      rw [if_pos ⟨hc, k4⟩] at k5
      exact rl_sub_of_and (h3 c hc) k5
    · exact h3 c hc
  · have e : rl_kj n cards place v = v := if_neg hn
    rw [e]
    exact ⟨hv, rl_le_refl v, fun q _ _ _ h => h⟩
theorem rl_bar_low {cl : List rl_C} {n cards place : Nat} (hp : place < 4) (hnb : ∀ q, rl_ok q → rl_nb cl q → rl_on q cards place ≤ n) (hfx : ∀ q, rl_fx cl q → rl_eq (rl_cs n cards place q) q) {v : rl_V} (hn : rl_on v cards place = n) : ∀ q, rl_ok q → rl_nb cl q → rl_fx cl q → rl_le q v → rl_le q (rl_bar cards place v) := by
  intro q hq h1 h2 h3 c hc
  unfold rl_bar
  split
  · rename_i hi
    have k0 := rl_O_mono hq h1.1 h3 cards hp
    have k1 := rl_cnt_le (List.range 9) k0
    have k2 := hnb q hq h1
    have k3 : rl_on q cards place = n := Nat.le_antisymm k2 (by unfold rl_on at *; omega)
    have k5 := hfx q h2 c hc
    have e2 : rl_cs n cards place q = rl_bar cards place q := if_pos k3
    rw [e2] at k5
    unfold rl_bar at k5
    have hi2 := hi.2
    rw [Bool.and_eq_true, Bool.not_eq_true'] at hi2
    by_cases hqc : q c = 2 ^ place
    · have k4 := rl_cnt_eq (List.range 9) k0 (by unfold rl_on at *; omega) c (List.mem_range.mpr hc) (by unfold rl_inO; rw [hi2.1, hqc]; simp)
      unfold rl_inO at k4
      rw [Bool.and_eq_true] at k4
      rw [hi2.2] at k4
      cases k4.2
    · rw [if_pos ⟨hc, by rw [hi2.1, beq_eq_false_iff_ne.mpr hqc]; rfl⟩] at k5
      exact rl_sub_of_and (h3 c hc) k5
  · exact h3 c hc
theorem rl_cs_good {cl : List rl_C} {n cards place : Nat} (hp : place < 4) (hnb : ∀ q, rl_ok q → rl_nb cl q → rl_on q cards place ≤ n) (hfx : ∀ q, rl_fx cl q → rl_eq (rl_cs n cards place q) q) : rl_good cl (rl_cs n cards place) := by
  intro v hv
  by_cases hn : rl_on v cards place = n
  · have e : rl_cs n cards place v = rl_bar cards place v := if_pos hn
    rw [e]
    exact ⟨(rl_bar_good hv cards place).1, (rl_bar_good hv cards place).2, rl_bar_low hp hnb hfx hn⟩
  · have e : rl_cs n cards place v = v := if_neg hn
    rw [e]
    exact ⟨hv, rl_le_refl v, fun q _ _ _ h => h⟩
theorem rl_cp_good {cl : List rl_C} {cards place : Nat} (hp : place < 4) (hnb : ∀ q, rl_ok q → rl_nb cl q → rl_on q cards place ≤ 1) (hfx : ∀ q, rl_fx cl q → rl_eq (rl_cs 1 cards place q) q) : rl_good cl (rl_cp cards place) := by
  intro v hv
  by_cases hn : 0 < rl_on v cards place
  · have e : rl_cp cards place v = rl_bar cards place v := if_pos hn
    rw [e]
    refine ⟨(rl_bar_good hv cards place).1, (rl_bar_good hv cards place).2, fun q hq h1 h2 h3 => ?_⟩
    have k1 := rl_cnt_le (List.range 9) (rl_O_mono hq h1.1 h3 cards hp)
    have k2 := hnb q hq h1
    have k3 : rl_on v cards place = 1 := by unfold rl_on at *; omega
    exact rl_bar_low hp hnb hfx k3 q hq h1 h2 h3
  · have e : rl_cp cards place v = v := if_neg hn
    rw [e]
    exact ⟨hv, rl_le_refl v, fun q _ _ _ h => h⟩
theorem rl_good_id (cl : List rl_C) : rl_good cl (fun v => v) := fun v hv => ⟨hv, rl_le_refl v, fun _ _ _ _ h => h⟩
theorem rl_good_comp {cl : List rl_C} {f g : rl_V → rl_V} (hf : rl_good cl f) (hg : rl_good cl g) : rl_good cl (fun v => g (f v)) := by
  intro v hv
  obtain ⟨a1, a2, a3⟩ := hf v hv
  obtain ⟨b1, b2, b3⟩ := hg (f v) a1
  exact ⟨b1, rl_le_trans b2 a2, fun q hq h1 h2 h3 => b3 q hq h1 h2 (a3 q hq h1 h2 h3)⟩
theorem rl_cl_good {cl : List rl_C} {x : rl_C} (hx : x ∈ cl) (hok : rl_cok x) : rl_good cl (rl_cl x) := by
  have hkeep : ∀ (v : rl_V), rl_ok v → rl_ok (rl_keep x.2.2 x.2.1 v) ∧ rl_le (rl_keep x.2.2 x.2.1 v) v := by
    intro v hv
    refine ⟨fun c hc => ?_, fun c hc => ?_⟩
    · unfold rl_keep; split
      · exact rl_and_lt (hv c hc)
      · exact hv c hc
    · unfold rl_keep; split
      · exact rl_sub_and _ _
      · exact rl_sub_refl _
  have hlose : ∀ (v : rl_V), rl_ok v → rl_ok (rl_lose x.2.2 x.2.1 v) ∧ rl_le (rl_lose x.2.2 x.2.1 v) v := by
    intro v hv
    refine ⟨fun c hc => ?_, fun c hc => ?_⟩
    · unfold rl_lose; split
      · exact rl_and_lt (hv c hc)
      · exact hv c hc
    · unfold rl_lose; split
      · exact rl_sub_and _ _
      · exact rl_sub_refl _
  by_cases h1 : x.1 = 0 ∨ x.1 = 5
  · have e : rl_cl x = rl_keep x.2.2 x.2.1 := by funext v; exact if_pos h1
    rw [e]
    intro v hv
    refine ⟨(hkeep v hv).1, (hkeep v hv).2, fun q hq n1 n2 n3 c hc => ?_⟩
    have k := n2.1 x hx c hc
    rw [e] at k
    unfold rl_keep at k ⊢
    split
    · rename_i hi
      rw [if_pos hi] at k
      exact rl_sub_of_and (n3 c hc) k
    · exact n3 c hc
  · by_cases h2 : x.1 = 1 ∨ x.1 = 3
    · have e : rl_cl x = rl_lose x.2.2 x.2.1 := by funext v; exact (if_neg h1).trans (if_pos h2)
      rw [e]
      intro v hv
      refine ⟨(hlose v hv).1, (hlose v hv).2, fun q hq n1 n2 n3 c hc => ?_⟩
      have k := n2.1 x hx c hc
      rw [e] at k
      unfold rl_lose at k ⊢
      split
      · rename_i hi
        rw [if_pos hi] at k
        exact rl_sub_of_and (n3 c hc) k
      · exact n3 c hc
    · by_cases h3 : x.1 = 2
      · have e : rl_cl x = rl_kj 1 x.2.2 x.2.1 := by funext v; exact (if_neg h1).trans ((if_neg h2).trans (if_pos h3))
        rw [e]
        exact rl_kj_good (fun q _ hn => (hn.2.2.2 x hx).1 h3) (fun q hf => by have k := hf.1 x hx; rw [e] at k; exact k)
      · have e : rl_cl x = rl_cs 2 x.2.2 x.2.1 := by funext v; exact (if_neg h1).trans ((if_neg h2).trans (if_neg h3))
        have h4 : x.1 = 4 := by have := hok.1; omega
        rw [e]
        refine rl_cs_good hok.2.1 (fun q _ hn => ?_) (fun q hf => by have k := hf.1 x hx; rw [e] at k; exact k)
        have k1 := (hn.2.2.2 x hx).2 h4
        have k2 : rl_on q x.2.2 x.2.1 ≤ (List.range 9).countP (fun c => x.2.2.testBit c) := rl_cnt_le (List.range 9) (fun c _ hc => by unfold rl_inO at hc; rw [Bool.and_eq_true] at hc; exact hc.1)
        have k3 := hok.2.2.2 h4
        omega
/-- one turn of the class: clues, kinds, players; of the reference: clues, then a kind and a player in turn -/
def rl_cls (cl : List rl_C) (v : rl_V) : rl_V := cl.foldl (fun v x => rl_cl x v) v
def rl_kdC (k : Nat) (v : rl_V) : rl_V := rl_kj 1 (rl_kd k) 3 (rl_cs 1 (rl_kd k) 3 v)
def rl_kdM (k : Nat) (v : rl_V) : rl_V := rl_kj 1 (rl_kd k) 3 (rl_cp (rl_kd k) 3 v)
def rl_pl (p : Nat) (v : rl_V) : rl_V := rl_kj 2 511 p (rl_cs 2 511 p v)
def rl_C1 (cl : List rl_C) (v : rl_V) : rl_V := rl_pl 2 (rl_pl 1 (rl_pl 0 (rl_kdC 2 (rl_kdC 1 (rl_kdC 0 (rl_cls cl v))))))
def rl_M1 (cl : List rl_C) (v : rl_V) : rl_V := rl_pl 2 (rl_kdM 2 (rl_pl 1 (rl_kdM 1 (rl_pl 0 (rl_kdM 0 (rl_cls cl v))))))
theorem rl_cls_good {cl : List rl_C} (hok : ∀ x ∈ cl, rl_cok x) : ∀ (l : List rl_C), (∀ x ∈ l, x ∈ cl) → rl_good cl (rl_cls l) := by
  intro l
  induction l with
  | nil => intro _; exact rl_good_id cl
  | cons a r ih =>
    intro h
    have k := rl_good_comp (cl := cl) (rl_cl_good (h a List.mem_cons_self) (hok a (h a List.mem_cons_self))) (ih (fun x hx => h x (List.mem_cons_of_mem _ hx)))
    exact k
theorem rl_kdC_good {cl : List rl_C} {k : Nat} (hk : k < 3) : rl_good cl (rl_kdC k) := by
  have k := rl_good_comp (cl := cl) (rl_cs_good (by decide) (fun _ _ h => (h.2.1 k hk).2) (fun _ h => (h.2.1 k hk).1)) (rl_kj_good (fun _ _ h => (h.2.1 k hk).1) (fun _ h => (h.2.1 k hk).2))
  exact k
theorem rl_kdM_good {cl : List rl_C} {k : Nat} (hk : k < 3) : rl_good cl (rl_kdM k) := by
  have k := rl_good_comp (cl := cl) (rl_cp_good (by decide) (fun _ _ h => (h.2.1 k hk).2) (fun _ h => (h.2.1 k hk).1)) (rl_kj_good (fun _ _ h => (h.2.1 k hk).1) (fun _ h => (h.2.1 k hk).2))
  exact k
theorem rl_pl_good {cl : List rl_C} {p : Nat} (hp : p < 3) : rl_good cl (rl_pl p) := by
  have k := rl_good_comp (cl := cl) (rl_cs_good (by omega) (fun _ _ h => (h.2.2.1 p hp).2) (fun _ h => (h.2.2 p hp).1)) (rl_kj_good (fun _ _ h => (h.2.2.1 p hp).1) (fun _ h => (h.2.2 p hp).2))
  exact k
theorem rl_C1_good {cl : List rl_C} (hok : ∀ x ∈ cl, rl_cok x) : rl_good cl (rl_C1 cl) := by
  have k := rl_good_comp (cl := cl) (rl_good_comp (cl := cl) (rl_good_comp (rl_good_comp (cl := cl) (rl_good_comp (rl_good_comp (cl := cl) (rl_cls_good hok cl (fun _ h => h)) (rl_kdC_good (cl := cl) (k := 0) (by decide))) (rl_kdC_good (cl := cl) (k := 1) (by decide))) (rl_kdC_good (cl := cl) (k := 2) (by decide))) (rl_pl_good (cl := cl) (p := 0) (by decide))) (rl_pl_good (cl := cl) (p := 1) (by decide))) (rl_pl_good (cl := cl) (p := 2) (by decide))
  exact k
theorem rl_M1_good {cl : List rl_C} (hok : ∀ x ∈ cl, rl_cok x) : rl_good cl (rl_M1 cl) := by
  have k := rl_good_comp (cl := cl) (rl_good_comp (cl := cl) (rl_good_comp (rl_good_comp (cl := cl) (rl_good_comp (rl_good_comp (cl := cl) (rl_cls_good hok cl (fun _ h => h)) (rl_kdM_good (cl := cl) (k := 0) (by decide))) (rl_pl_good (cl := cl) (p := 0) (by decide))) (rl_kdM_good (cl := cl) (k := 1) (by decide))) (rl_pl_good (cl := cl) (p := 1) (by decide))) (rl_kdM_good (cl := cl) (k := 2) (by decide))) (rl_pl_good (cl := cl) (p := 2) (by decide))
  exact k
/-- reached from all places by such steps -/
def rl_rch (cl : List rl_C) (v : rl_V) : Prop := rl_ok v ∧ ∀ q, rl_ok q → rl_nb cl q → rl_fx cl q → rl_le q v
theorem rl_rch_top (cl : List rl_C) {v : rl_V} (h : ∀ c, c < 9 → v c = 15) : rl_rch cl v := by
  refine ⟨fun c hc => by rw [h c hc]; decide, fun q hq _ _ c hc => ?_⟩
  rw [h c hc]
  exact rl_all2 (P := fun x _ => rl_sub x 15) (by decide +kernel) (hq c hc) (hq c hc)
theorem rl_rch_step {cl : List rl_C} {f : rl_V → rl_V} (hf : rl_good cl f) {v : rl_V} (h : rl_rch cl v) : rl_rch cl (f v) := by
  obtain ⟨a1, a2, a3⟩ := hf v h.1
  exact ⟨a1, fun q hq h1 h2 => a3 q hq h1 h2 (h.2 q hq h1 h2)⟩
theorem rl_nb_up {cl : List rl_C} (hok : ∀ x ∈ cl, rl_cok x) {q v : rl_V} (hq : rl_ok q) (h : rl_le q v) (hn : rl_nb cl q) : rl_nb cl v := by
  have hps : ∀ cards place, rl_ps q cards place ≤ rl_ps v cards place := fun cards place => rl_cnt_le (List.range 9) (rl_P_mono h cards place)
  have hon : ∀ cards place, place < 4 → rl_on v cards place ≤ rl_on q cards place := fun cards place hp => rl_cnt_le (List.range 9) (rl_O_mono hq hn.1 h cards hp)
  refine ⟨fun c hc h0 => ?_, fun k hk => ?_, fun p hp => ?_, fun x hx => ⟨fun hk => ?_, fun hk => ?_⟩⟩
  · have k := h c hc
    rw [h0] at k
    unfold rl_sub at k
    rw [Nat.and_zero] at k
    exact hn.1 c hc (eq_of_beq k).symm
  · have k := hn.2.1 k hk
    have k1 := hps (rl_kd ‹Nat›) 3
    exact ⟨Nat.le_trans k.1 (hps _ 3), Nat.le_trans (hon _ 3 (by decide)) k.2⟩
  · have k := hn.2.2.1 p hp
    exact ⟨Nat.le_trans k.1 (hps _ p), Nat.le_trans (hon _ p (by omega)) k.2⟩
  · exact Nat.le_trans ((hn.2.2.2 x hx).1 hk) (hps _ _)
  · have k1 := (hn.2.2.2 x hx).2 hk
    have k2 := hon x.2.2 x.2.1 (hok x hx).2.1
    have k3 : rl_on q x.2.2 x.2.1 ≤ (List.range 9).countP (fun c => x.2.2.testBit c) := rl_cnt_le (List.range 9) (fun c _ hc => by unfold rl_inO at hc; rw [Bool.and_eq_true] at hc; exact hc.1)
    have k4 := (hok x hx).2.2.2 hk
    omega
theorem rl_anti {x y : Nat} (h1 : rl_sub x y = true) (h2 : rl_sub y x = true) : x = y := by
  unfold rl_sub at h1 h2
  have h1 := eq_of_beq h1
  have h2 := eq_of_beq h2
  rw [Nat.and_comm] at h2
  exact h1.symm.trans h2
/-- the two ends: both break down, or neither, and then they are the same -/
theorem rl_meet {cl : List rl_C} (hok : ∀ x ∈ cl, rl_cok x) {v w : rl_V} (h1 : rl_rch cl v) (h2 : rl_rch cl w) (f1 : rl_fx cl v) (f2 : rl_fx cl w) : (rl_nb cl v ↔ rl_nb cl w) ∧ (rl_nb cl v → rl_eq v w) := by
  have a : rl_nb cl v → rl_le v w := fun h => h2.2 v h1.1 h f1
  have b : rl_nb cl w → rl_le w v := fun h => h1.2 w h2.1 h f2
  have a2 : rl_nb cl v → rl_nb cl w := fun h => rl_nb_up hok h1.1 (a h) h
  have b2 : rl_nb cl w → rl_nb cl v := fun h => rl_nb_up hok h2.1 (b h) h
  exact ⟨⟨a2, b2⟩, fun h c hc => rl_anti (a h c hc) (b (a2 h) c hc)⟩
/-- what is left, counted -/
def rl_pc (x : Nat) : Nat := x % 2 + x / 2 % 2 + x / 4 % 2 + x / 8 % 2
def rl_sum : Nat → rl_V → Nat
  | 0, _ => 0
  | n + 1, v => rl_sum n v + rl_pc (v n)
theorem rl_pc_sub {x y : Nat} (hx : x < 16) (hy : y < 16) (h : rl_sub x y = true) : rl_pc x ≤ rl_pc y ∧ (rl_pc x = rl_pc y → x = y) := by
  have k := rl_all2 (P := fun x y => !rl_sub x y || (Nat.ble (rl_pc x) (rl_pc y) && (!(rl_pc x == rl_pc y) || x == y))) (by decide +kernel) hx hy
  rw [h] at k
  simp only [Bool.not_true, Bool.false_or, Bool.and_eq_true, Bool.or_eq_true, Bool.not_eq_true', beq_iff_eq, beq_eq_false_iff_ne] at k
  exact ⟨Nat.le_of_ble_eq_true k.1, fun q => k.2.resolve_left (fun z => z q)⟩
theorem rl_sum_le {q v : rl_V} (hq : rl_ok q) (hv : rl_ok v) (h : rl_le q v) : ∀ n, n ≤ 9 → rl_sum n q ≤ rl_sum n v ∧ (rl_sum n q = rl_sum n v → ∀ c, c < n → q c = v c) := by
  intro n
  induction n with
  | zero => intro _; exact ⟨Nat.le_refl _, fun _ c hc => absurd hc (Nat.not_lt_zero _)⟩
  | succ n ih =>
    intro hn
    obtain ⟨i1, i2⟩ := ih (by omega)
    obtain ⟨p1, p2⟩ := rl_pc_sub (hq n (by omega)) (hv n (by omega)) (h n (by omega))
    refine ⟨Nat.add_le_add i1 p1, fun e c hc => ?_⟩
    have e : rl_sum n q + rl_pc (q n) = rl_sum n v + rl_pc (v n) := e
    rcases Nat.lt_succ_iff_lt_or_eq.mp hc with h1 | h1
    · exact i2 (by omega) c h1
    · rw [h1]; exact p2 (by omega)
theorem rl_pc_le {x : Nat} : rl_pc x ≤ 4 := by unfold rl_pc; omega
theorem rl_sum_36 (v : rl_V) : rl_sum 9 v ≤ 36 := by
  have h : ∀ n, rl_sum n v ≤ 4 * n := by
    intro n
    induction n with
    | zero => exact Nat.le_refl _
    | succ n ih => have := @rl_pc_le (v n); show rl_sum n v + rl_pc (v n) ≤ 4 * (n + 1); omega
  exact h 9
