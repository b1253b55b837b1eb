/-! the counter of deals: looks at the counts -/
theorem lt0_m1 : cnd .lt (cst (-1)) := show (cst (-1) : Int32) < 0 by decide
def splG (T : Nat) (f : NA) : Nat → Nat → Int32
  | 0, _ => cst (-1)
  | n + 1, i => if 0 < T ∧ f i = T then nI i else splG T f n (i + 1)
def spB (T : Nat) (f : NA) : Bool := Nat.blt 0 T && (List.range 4).any (fun p => Nat.beq (f p) T)
theorem splG_val (T : Nat) (f : NA) : ∀ (n i : Nat), (splG T f n i = cst (-1) ∧ ∀ p, i ≤ p → p < i + n → ¬ (0 < T ∧ f p = T)) ∨ ∃ p, i ≤ p ∧ p < i + n ∧ 0 < T ∧ f p = T ∧ splG T f n i = nI p := by
  intro n
  induction n with
  | zero => intro i; exact Or.inl ⟨rfl, fun p h1 h2 => absurd h2 (by omega)⟩
  | succ n ih =>
    intro i
    by_cases h : 0 < T ∧ f i = T
    · exact Or.inr ⟨i, by omega, by omega, h.1, h.2, if_pos h⟩
    · have e : splG T f (n + 1) i = splG T f n (i + 1) := if_neg h
      rw [e]
      rcases ih (i + 1) with ⟨h1, h2⟩ | ⟨p, h1, h2, h3, h4, h5⟩
      · refine Or.inl ⟨h1, fun p q1 q2 => ?_⟩
        by_cases hp : p = i
        · rw [hp]; exact h
        · exact h2 p (by omega) (by omega)
      · exact Or.inr ⟨p, by omega, by omega, h3, h4, h5⟩
theorem spB_t {T : Nat} {f : NA} : spB T f = true ↔ ∃ p, p < 4 ∧ 0 < T ∧ f p = T := by
  unfold spB
  rw [Bool.and_eq_true, List.any_eq_true]
  constructor
  · rintro ⟨h1, p, h2, h3⟩
    exact ⟨p, List.mem_range.mp h2, Nat.le_of_ble_eq_true h1, Nat.eq_of_beq_eq_true h3⟩
  · rintro ⟨p, h1, h2, h3⟩
    exact ⟨Nat.ble_eq_true_of_le h2, p, List.mem_range.mpr h1, nbt h3⟩
theorem spl_cases (T : Nat) (f : NA) : (spB T f = false ∧ splG T f 4 0 = cst (-1)) ∨ (spB T f = true ∧ ∃ p, p < 4 ∧ splG T f 4 0 = nI p) := by
  rcases splG_val T f 4 0 with ⟨h1, h2⟩ | ⟨p, h1, h2, h3, h4, h5⟩
  · left
    refine ⟨?_, h1⟩
    cases hb : spB T f with
    | false => rfl
    | true =>
      obtain ⟨p, q1, q2, q3⟩ := spB_t.mp hb
      exact absurd ⟨q2, q3⟩ (h2 p (by omega) (by omega))
  · exact Or.inr ⟨spB_t.mpr ⟨p, by omega, h3, h4⟩, p, by omega, h5⟩
/-- the first of the largest, the first of the least -/
def amx (f : NA) : Nat → Nat
  | 0 => 0
  | n + 1 => if f (amx f n) < f (n + 1) then n + 1 else amx f n
def amn (f : NA) : Nat → Nat
  | 0 => 0
  | n + 1 => if f (n + 1) < f (amn f n) then n + 1 else amn f n
theorem amx_le (f : NA) : ∀ n, amx f n ≤ n := by
  intro n
  induction n with
  | zero => exact Nat.le_refl _
  | succ n ih =>
    show (if f (amx f n) < f (n + 1) then n + 1 else amx f n) ≤ n + 1
    split <;> omega
theorem amn_le (f : NA) : ∀ n, amn f n ≤ n := by
  intro n
  induction n with
  | zero => exact Nat.le_refl _
  | succ n ih =>
    show (if f (n + 1) < f (amn f n) then n + 1 else amn f n) ≤ n + 1
    split <;> omega
/-- sums over two cards -/
def iS (h : NA) (s : Nat) : Nat → Nat
  | 0 => 0
  | n + 1 => iS h s n + h (s + n)
def oS (g : Nat → NA) : Nat → Nat
  | 0 => 0
  | n + 1 => oS g n + iS (g n) (n + 1) (8 - n)
def wnT (wh : NA) (p hm f s : Nat) : Nat := bif Nat.beq ((2 ^ f ||| 2 ^ s) &&& hm) 0 then wh (512 * p + (2 ^ f ||| 2 ^ s)) else 0
def wnS (wh : NA) (p t : Nat) : Nat := oS (wnT wh p (dq_mask t)) 9
def lvs (T n : Nat) : Nat := if n < T - n then T - n else n
theorem mask_lt {t : Nat} (h : t < 27) : dq_mask t < 512 := by
  have h1 : (List.range 27).all (fun t => Nat.blt (dq_mask t) 512) = true := by decide +kernel
  exact Nat.le_of_ble_eq_true (List.all_eq_true.mp h1 t (List.mem_range.mpr h))
theorem two_lt {f s : Nat} (hf : f < 9) (hs : s < 9) : 2 ^ f ||| 2 ^ s < 512 := by
  have h1 : 2 ^ f < 2 ^ 9 := Nat.pow_lt_pow_right (by decide) hf
  have h2 : 2 ^ s < 2 ^ 9 := Nat.pow_lt_pow_right (by decide) hs
  exact Nat.or_lt_two_pow h1 h2
section LOOKS
variable {d T : Nat} {fr : Int32} {ca ie wh hb : NA} {so : IA}
theorem s_withCardAt {c p : Nat} (hc : c < 9) (hp : p < 4) : Cl (d + 1) kX0_withCardAt [.ref 0, .int (nI c), .int (nI p)] (mX0 (nI T) fr (nA ca) (nA ie) (nA wh) (nA hb) so) (.inl (some (.int (nI (ca (4 * c + p)))))) (mX0 (nI T) fr (nA ca) (nA ie) (nA wh) (nA hb) so) := by
  refine Cl_go e_X0_withCardAt (Nat.le_of_ble_eq_true rfl) rfl ?_; intro P hP; refine hP _ _ _ _ ?_; (conv => whnf)
  refine b1 c rfl (by omega) (fun (h : c < 0) => by omega) (fun _ => ?_); (conv => whnf)
  refine b2 c 9 rfl rfl (by omega) (by omega) (fun (h : 9 ≤ c) => by omega) (fun _ => ?_); (conv => whnf)
  refine b1 p rfl (by omega) (fun (h : p < 0) => by omega) (fun _ => ?_); (conv => whnf)
  refine b2 p 4 rfl rfl (by omega) (by omega) (fun (h : 4 ≤ p) => by omega) (fun _ => ?_); (conv => whnf)
  refine hP _ _ _ _ ?_; (conv => whnf)
  refine b1 1 rfl (by omega) (fun (h : 1 = 0) => by omega) (fun _ => ?_); (conv => whnf)
  have e : nI c * cst 4 + nI p = nI (4 * c + p) := by rw [show cst 4 = nI 4 from rfl, pk_mul, nI_add, Nat.mul_comm]
  refine ⟨vi e (show 4 * c + p < 36 by omega) (by decide), ?_⟩; (conv => whnf)
  refine hP _ _ _ _ ?_; (conv => whnf)
  exact ⟨rfl, ⟨.int, rfl, rfl⟩, rI (congrArg (nA ca) (pk_cl _ e (by omega))), rfl⟩
theorem s_surePlace {c : Nat} (hc : c < 9) (hT : T < 2 ^ 31) (hf : ∀ p, p < 4 → ca (4 * c + p) < 2 ^ 31) : Cl (d + 2) kX0_surePlace [.ref 0, .int (nI c)] (mX0 (nI T) fr (nA ca) (nA ie) (nA wh) (nA hb) so) (.inl (some (.int (splG T (fun p => ca (4 * c + p)) 4 0)))) (mX0 (nI T) fr (nA ca) (nA ie) (nA wh) (nA hb) so) := by
  refine Cl_go e_X0_surePlace (Nat.le_of_ble_eq_true rfl) rfl ?_; intro P hP; refine hP _ _ _ _ ?_; (conv => whnf)
  have lp : ∀ (n i : Nat) (x : Int32), x = nI i → i + n = 4 → splG T (fun p => ca (4 * c + p)) n i = splG T (fun p => ca (4 * c + p)) 4 0 → P 2 [some (.ref 0), some (.int (nI c)), some (.int x)] [] (mX0 (nI T) fr (nA ca) (nA ie) (nA wh) (nA hb) so) := by
    intro n
    induction n with
    | zero =>
      intro i x hx hi he
      subst hx
      refine hP _ _ _ _ ?_; (conv => whnf)
      refine b2 i 4 rfl rfl (by omega) (by omega) (fun _ => ?_) (fun (q : ¬ 4 ≤ i) => by omega)
      refine hP _ _ _ _ ?_; (conv => whnf)
      exact ⟨rfl, ⟨.int, rfl, rfl⟩, rI (he), rfl⟩
    | succ n ih =>
      intro i x hx hi he
      subst hx
      have hi4 : i < 4 := by omega
      have next : ¬ (0 < T ∧ ca (4 * c + i) = T) → P 29 [some (.ref 0), some (.int (nI c)), some (.int (nI i))] [] (mX0 (nI T) fr (nA ca) (nA ie) (nA wh) (nA hb) so) := by
        intro h
        refine hP _ _ _ _ ?_; (conv => whnf)
        refine ih (i + 1) _ (nI_1 i) (by omega) ?_
        rw [← he]
        exact (if_neg h).symm
      refine hP _ _ _ _ ?_; (conv => whnf)
      refine b2 i 4 rfl rfl (by omega) (by omega) (fun (q : 4 ≤ i) => by omega) (fun _ => ?_); (conv => whnf)
      refine b1 T rfl hT (fun (q : T ≤ 0) => ?_) (fun (q : ¬ T ≤ 0) => ?_)
      · exact next (fun z => by omega)
      · (conv => whnf)
        refine ⟨Nat.le_of_ble_eq_true rfl, rfl, ?_⟩; (conv => whnf)
        refine Or.inl ⟨_, _, s_withCardAt hc hi4, ?_⟩; (conv => whnf)
        refine b2 (ca (4 * c + i)) T rfl rfl (hf i hi4) hT (fun (z : ¬ ca (4 * c + i) = T) => ?_) (fun (z : ¬ ¬ ca (4 * c + i) = T) => ?_)
        · exact next (fun y => z y.2)
        · (conv => whnf)
          have h : 0 < T ∧ ca (4 * c + i) = T := ⟨by omega, Decidable.of_not_not z⟩
          exact ⟨rfl, ⟨.int, rfl, rfl⟩, rI (by rw [← he]; exact (if_pos h).symm), rfl⟩
  exact lp 4 0 _ rfl rfl rfl
theorem s_sureCards (hT : T < 2 ^ 31) (hf : ∀ j, j < 36 → ca j < 2 ^ 31) : Cl (d + 3) kX0_sureCards [.ref 0] (mX0 (nI T) fr (nA ca) (nA ie) (nA wh) (nA hb) so) (.inl (some (.int (nI (cntN (fun c => spB T (fun p => ca (4 * c + p))) 9))))) (mX0 (nI T) fr (nA ca) (nA ie) (nA wh) (nA hb) so) := by
  refine Cl_go e_X0_sureCards (Nat.le_of_ble_eq_true rfl) rfl ?_; intro P hP; refine hP _ _ _ _ ?_; (conv => whnf)
  have lp : ∀ (n i : Nat) (a x : Int32), x = nI i → i + n = 9 → a = nI (cntN (fun c => spB T (fun p => ca (4 * c + p))) i) → P 4 [some (.ref 0), some (.int a), some (.int x)] [] (mX0 (nI T) fr (nA ca) (nA ie) (nA wh) (nA hb) so) := by
    intro n
    induction n with
    | zero =>
      intro i a x hx hi ha
      subst hx
      have hi : i = 9 := hi
      subst hi
      refine hP _ _ _ _ ?_; (conv => whnf)
      refine b2 9 9 rfl rfl (by omega) (by omega) (fun _ => ?_) (fun (q : ¬ 9 ≤ 9) => by omega)
      refine hP _ _ _ _ ?_; (conv => whnf)
      exact ⟨rfl, ⟨.int, rfl, rfl⟩, rI (ha), rfl⟩
    | succ n ih =>
      intro i a x hx hi ha
      subst hx
      refine hP _ _ _ _ ?_; (conv => whnf)
      refine b2 i 9 rfl rfl (by omega) (by omega) (fun (q : 9 ≤ i) => by omega) (fun _ => ?_); (conv => whnf)
      refine ⟨Nat.le_of_ble_eq_true rfl, rfl, ?_⟩; (conv => whnf)
      refine Or.inl ⟨_, _, s_surePlace (show i < 9 by omega) hT (fun p hp => hf _ (by omega)), ?_⟩; (conv => whnf)
      rcases spl_cases T (fun p => ca (4 * i + p)) with ⟨h1, h2⟩ | ⟨h1, p, hp, h2⟩
      · refine ⟨fun _ => ?_, fun q => absurd (show cnd .lt (splG T (fun p => ca (4 * i + p)) 4 0) by rw [h2]; exact lt0_m1) q⟩
        refine hP _ _ _ _ ?_; (conv => whnf)
        refine hP _ _ _ _ ?_; (conv => whnf)
        refine ih (i + 1) _ _ (nI_1 i) (by omega) ?_
        rw [ha]; exact cntN_f h1
      · refine b1 p h2 (by omega) (fun (q : p < 0) => by omega) (fun _ => ?_); (conv => whnf)
        refine hP _ _ _ _ ?_; (conv => whnf)
        refine ih (i + 1) _ _ (nI_1 i) (by omega) ?_
        rw [ha]; exact cntN_t h1
  exact lp 9 0 _ _ rfl rfl rfl
theorem s_placesLeft (hV : ∀ j, j < 36 → ca j < 2 ^ 31) : Cl (d + 1) kX0_placesLeft [.ref 0] (mX0 (nI T) fr (nA ca) (nA ie) (nA wh) (nA hb) so) (.inl (some (.int (nI (cntN (fun j => Nat.blt 0 (ca j)) 36))))) (mX0 (nI T) fr (nA ca) (nA ie) (nA wh) (nA hb) so) := by
  refine Cl_go e_X0_placesLeft (Nat.le_of_ble_eq_true rfl) rfl ?_; intro P hP; refine hP _ _ _ _ ?_; (conv => whnf)
  have lp : ∀ (n i : Nat) (a x : Int32), i + n = 36 → a = nI (cntN (fun j => Nat.blt 0 (ca j)) i) → x = nI i → P 4 [some (.ref 0), some (.int a), some (.int x)] [] (mX0 (nI T) fr (nA ca) (nA ie) (nA wh) (nA hb) so) := by
    intro n
    induction n with
    | zero =>
      intro i a x hi ha hx
      refine hP _ _ _ _ ?_; (conv => whnf)
      refine b2 i 36 hx rfl (by omega) (by omega) (fun _ => ?_) (fun (h : ¬ 36 ≤ i) => by omega)
      refine hP _ _ _ _ ?_; (conv => whnf)
      have hi : i = 36 := hi
      exact ⟨rfl, ⟨.int, rfl, rfl⟩, rI (by rw [ha, hi]), rfl⟩
    | succ n ih =>
      intro i a x hi ha hx
      refine hP _ _ _ _ ?_; (conv => whnf)
      refine b2 i 36 hx rfl (by omega) (by omega) (fun (h : 36 ≤ i) => by omega) (fun _ => ?_); (conv => whnf)
      refine ⟨vi hx (show i < 36 by omega) (by decide), ?_⟩; (conv => whnf)
      have hq : nA ca (x.toNatClampNeg) = nI (ca i) := by rw [hx, nI_clamp (by omega)]; rfl
      refine b1 (ca i) hq (hV i (by omega)) (fun (h : ca i ≤ 0) => ?_) (fun (h : ¬ ca i ≤ 0) => ?_)
      · refine hP _ _ _ _ ?_; (conv => whnf)
        refine hP _ _ _ _ ?_; (conv => whnf)
        refine ih (i + 1) _ _ (by omega) ?_ ?_
        · rw [ha]; exact cntN_f (by show Nat.blt 0 (ca i) = false; rw [Nat.le_zero.mp h]; rfl)
        · rw [hx]; exact nI_1 i
      · (conv => whnf)
        refine hP _ _ _ _ ?_; (conv => whnf)
        refine ih (i + 1) _ _ (by omega) ?_ ?_
        · rw [ha]; exact cntN_t (Nat.ble_eq_true_of_le (Nat.lt_of_not_le h))
        · rw [hx]; exact nI_1 i
  exact lp 36 0 _ _ rfl rfl rfl
theorem s_withEnvelope {t : Nat} (ht : t < 27) : Cl (d + 1) kX0_withEnvelope [.ref 0, .int (nI t)] (mX0 (nI T) fr (nA ca) (nA ie) (nA wh) (nA hb) so) (.inl (some (.int (nI (ie t))))) (mX0 (nI T) fr (nA ca) (nA ie) (nA wh) (nA hb) so) := by
  refine Cl_go e_X0_withEnvelope (Nat.le_of_ble_eq_true rfl) rfl ?_; intro P hP; refine hP _ _ _ _ ?_; (conv => whnf)
  refine b1 t rfl (by omega) (fun (q : t < 0) => by omega) (fun _ => ?_); (conv => whnf)
  refine b2 t 27 rfl rfl (by omega) (by omega) (fun (q : 27 ≤ t) => by omega) (fun _ => ?_); (conv => whnf)
  refine ⟨vi rfl ht (by decide), ?_⟩; (conv => whnf)
  refine hP _ _ _ _ ?_; (conv => whnf)
  exact ⟨rfl, ⟨.int, rfl, rfl⟩, rI (congrArg (nA ie) (nI_clamp (by omega))), rfl⟩
theorem s_envelopesLeft (hV : ∀ j, j < 27 → ie j < 2 ^ 31) : Cl (d + 1) kX0_envelopesLeft [.ref 0] (mX0 (nI T) fr (nA ca) (nA ie) (nA wh) (nA hb) so) (.inl (some (.int (nI (cntN (fun j => Nat.blt 0 (ie j)) 27))))) (mX0 (nI T) fr (nA ca) (nA ie) (nA wh) (nA hb) so) := by
  refine Cl_go e_X0_envelopesLeft (Nat.le_of_ble_eq_true rfl) rfl ?_; intro P hP; refine hP _ _ _ _ ?_; (conv => whnf)
  have lp : ∀ (n i : Nat) (a x : Int32), i + n = 27 → a = nI (cntN (fun j => Nat.blt 0 (ie j)) i) → x = nI i → P 4 [some (.ref 0), some (.int a), some (.int x)] [] (mX0 (nI T) fr (nA ca) (nA ie) (nA wh) (nA hb) so) := by
    intro n
    induction n with
    | zero =>
      intro i a x hi ha hx
      refine hP _ _ _ _ ?_; (conv => whnf)
      refine b2 i 27 hx rfl (by omega) (by omega) (fun _ => ?_) (fun (h : ¬ 27 ≤ i) => by omega)
      refine hP _ _ _ _ ?_; (conv => whnf)
      have hi : i = 27 := hi
      exact ⟨rfl, ⟨.int, rfl, rfl⟩, rI (by rw [ha, hi]), rfl⟩
    | succ n ih =>
      intro i a x hi ha hx
      refine hP _ _ _ _ ?_; (conv => whnf)
      refine b2 i 27 hx rfl (by omega) (by omega) (fun (h : 27 ≤ i) => by omega) (fun _ => ?_); (conv => whnf)
      refine ⟨vi hx (show i < 27 by omega) (by decide), ?_⟩; (conv => whnf)
      have hq : nA ie (x.toNatClampNeg) = nI (ie i) := by rw [hx, nI_clamp (by omega)]; rfl
      refine b1 (ie i) hq (hV i (by omega)) (fun (h : ie i ≤ 0) => ?_) (fun (h : ¬ ie i ≤ 0) => ?_)
      · refine hP _ _ _ _ ?_; (conv => whnf)
        refine hP _ _ _ _ ?_; (conv => whnf)
        refine ih (i + 1) _ _ (by omega) ?_ ?_
        · rw [ha]; exact cntN_f (by show Nat.blt 0 (ie i) = false; rw [Nat.le_zero.mp h]; rfl)
        · rw [hx]; exact nI_1 i
      · (conv => whnf)
        refine hP _ _ _ _ ?_; (conv => whnf)
        refine ih (i + 1) _ _ (by omega) ?_ ?_
        · rw [ha]; exact cntN_t (Nat.ble_eq_true_of_le (Nat.lt_of_not_le h))
        · rw [hx]; exact nI_1 i
  exact lp 27 0 _ _ rfl rfl rfl
theorem s_likeliestEnvelope (hV : ∀ j, j < 27 → ie j < 2 ^ 31) : Cl (d + 2) kX0_likeliestEnvelope [.ref 0] (mX0 (nI T) fr (nA ca) (nA ie) (nA wh) (nA hb) so) (.inl (some (.int (nI (amx ie 26))))) (mX0 (nI T) fr (nA ca) (nA ie) (nA wh) (nA hb) so) := by
  refine Cl_go e_X0_likeliestEnvelope (Nat.le_of_ble_eq_true rfl) rfl ?_; intro P hP; refine hP _ _ _ _ ?_; (conv => whnf)
  have lp : ∀ (n i : Nat) (a x : Int32), i + n = 26 → a = nI (amx ie i) → x = nI (i + 1) → P 4 [some (.ref 0), some (.int a), some (.int x)] [] (mX0 (nI T) fr (nA ca) (nA ie) (nA wh) (nA hb) so) := by
    intro n
    induction n with
    | zero =>
      intro i a x hi ha hx
      have hi : i = 26 := hi
      subst hi
      refine hP _ _ _ _ ?_; (conv => whnf)
      refine b2 27 27 hx rfl (by omega) (by omega) (fun _ => ?_) (fun (h : ¬ 27 ≤ 27) => by omega)
      refine hP _ _ _ _ ?_; (conv => whnf)
      exact ⟨rfl, ⟨.int, rfl, rfl⟩, rI (ha), rfl⟩
    | succ n ih =>
      intro i a x hi ha hx
      subst ha
      subst hx
      have hle := amx_le ie i
      refine hP _ _ _ _ ?_; (conv => whnf)
      refine b2 (i + 1) 27 rfl rfl (by omega) (by omega) (fun (h : 27 ≤ i + 1) => by omega) (fun _ => ?_); (conv => whnf)
      refine ⟨Nat.le_of_ble_eq_true rfl, rfl, ?_⟩; (conv => whnf)
      refine Or.inl ⟨_, _, s_withEnvelope (show i + 1 < 27 by omega), ?_⟩; (conv => whnf)
      refine ⟨Nat.le_of_ble_eq_true rfl, rfl, ?_⟩; (conv => whnf)
      refine Or.inl ⟨_, _, s_withEnvelope (show amx ie i < 27 by omega), ?_⟩; (conv => whnf)
      refine b2 (ie (i + 1)) (ie (amx ie i)) rfl rfl (hV _ (by omega)) (hV _ (by omega)) (fun (h : ie (i + 1) ≤ ie (amx ie i)) => ?_) (fun (h : ¬ ie (i + 1) ≤ ie (amx ie i)) => ?_)
      · refine hP _ _ _ _ ?_; (conv => whnf)
        refine hP _ _ _ _ ?_; (conv => whnf)
        refine ih (i + 1) _ _ (by omega) ?_ (nI_1 (i + 1))
        show _ = nI (if ie (amx ie i) < ie (i + 1) then i + 1 else amx ie i)
        rw [if_neg (by omega)]
      · (conv => whnf)
        refine hP _ _ _ _ ?_; (conv => whnf)
        refine ih (i + 1) _ _ (by omega) ?_ (nI_1 (i + 1))
        show _ = nI (if ie (amx ie i) < ie (i + 1) then i + 1 else amx ie i)
        rw [if_pos (by omega)]
  exact lp 26 0 _ _ rfl rfl rfl
theorem s_share0 (hT : T = 0) : Cl (d + 1) kX0_shareOfLikeliest [.ref 0] (mX0 (nI T) fr (nA ca) (nA ie) (nA wh) (nA hb) so) (.inl (some (.double FP.dconst0))) (mX0 (nI T) fr (nA ca) (nA ie) (nA wh) (nA hb) so) := by
  refine Cl_go e_X0_shareOfLikeliest (Nat.le_of_ble_eq_true rfl) rfl ?_; intro P hP; refine hP _ _ _ _ ?_; (conv => whnf)
  refine b1 T rfl (by omega) (fun (q : 0 < T) => by omega) (fun _ => ?_); (conv => whnf)
  refine hP _ _ _ _ ?_; (conv => whnf)
  exact ⟨rfl, rfl, rfl, rfl⟩
theorem s_share1 (hV : ∀ j, j < 27 → ie j < 2 ^ 31) (hT : 0 < T) (hT2 : T < 2 ^ 31) (hn : vf_n64 (FP.ddiv (FP.i2d (nI (ie (amx ie 26)))) (FP.i2d (nI T)))) : Cl (d + 3) kX0_shareOfLikeliest [.ref 0] (mX0 (nI T) fr (nA ca) (nA ie) (nA wh) (nA hb) so) (.inl (some (.double (FP.ddiv (FP.i2d (nI (ie (amx ie 26)))) (FP.i2d (nI T)))))) (mX0 (nI T) fr (nA ca) (nA ie) (nA wh) (nA hb) so) := by
  have hle := amx_le ie 26
  refine Cl_go e_X0_shareOfLikeliest (Nat.le_of_ble_eq_true rfl) rfl ?_; intro P hP; refine hP _ _ _ _ ?_; (conv => whnf)
  refine b1 T rfl (by omega) (fun _ => ?_) (fun (q : ¬ 0 < T) => by omega)
  refine hP _ _ _ _ ?_; (conv => whnf)
  refine ⟨Nat.le_of_ble_eq_true rfl, rfl, ?_⟩; (conv => whnf)
  refine Or.inl ⟨_, _, s_likeliestEnvelope hV, ?_⟩; (conv => whnf)
  refine ⟨Nat.le_of_ble_eq_true rfl, rfl, ?_⟩; (conv => whnf)
  refine Or.inl ⟨_, _, s_withEnvelope (show amx ie 26 < 27 by omega), ?_⟩; (conv => whnf)
  refine ⟨hn, ?_⟩; (conv => whnf)
  refine hP _ _ _ _ ?_; (conv => whnf)
  exact ⟨rfl, rfl, rfl, rfl⟩
theorem s_withNone {p t : Nat} (hp : p < 3) (ht : t < 27) : Cl (d + 3) kX0_withNone [.ref 0, .int (nI p), .int (nI t)] (mX0 (nI T) fr (nA ca) (nA ie) (nA wh) (nA hb) so) (.inl (some (.int (nI (wnS wh p t))))) (mX0 (nI T) fr (nA ca) (nA ie) (nA wh) (nA hb) so) := by
  have hml := mask_lt ht
  refine Cl_go e_X0_withNone (Nat.le_of_ble_eq_true rfl) rfl ?_; intro P hP; refine hP _ _ _ _ ?_; (conv => whnf)
  refine b1 p rfl (by omega) (fun (q : p < 0) => by omega) (fun _ => ?_); (conv => whnf)
  refine b2 p 3 rfl rfl (by omega) (by omega) (fun _ => ?_) (fun (q : ¬ p < 3) => by omega)
  refine hP _ _ _ _ ?_; (conv => whnf)
  refine ⟨Nat.le_of_ble_eq_true rfl, rfl, ?_⟩; (conv => whnf)
  refine Or.inl ⟨_, _, Cl_s (s_cardsOfTriple ht), ?_⟩; (conv => whnf)
  have inn : ∀ (n f s : Nat) (a x : Int32) (v : Nat), f < 9 → s + n = 9 → f < s → x = nI s → a = nI v →
      (∀ a', a' = nI (v + iS (wnT wh p (dq_mask t) f) s n) → P 88 [some (.ref 0), some (.int (nI p)), none, some (.int (nI (dq_mask t))), some (.int a'), some (.int (nI f)), none, none] [] (mX0 (nI T) fr (nA ca) (nA ie) (nA wh) (nA hb) so)) →
      P 35 [some (.ref 0), some (.int (nI p)), none, some (.int (nI (dq_mask t))), some (.int a), some (.int (nI f)), some (.int x), none] [] (mX0 (nI T) fr (nA ca) (nA ie) (nA wh) (nA hb) so) := by
    intro n
    induction n with
    | zero =>
      intro f s a x v hf hs hfs hx ha k
      refine hP _ _ _ _ ?_; (conv => whnf)
      refine b2 s 9 hx rfl (by omega) (by omega) (fun _ => ?_) (fun (q : ¬ 9 ≤ s) => by omega)
      exact k _ (by rw [ha]; rfl)
    | succ n ih =>
      intro f s a x v hf hs hfs hx ha k
      subst hx
      subst ha
      have e1 : nI 1 <<< (nI f &&& 31) ||| nI 1 <<< (nI s &&& 31) = nI (2 ^ f ||| 2 ^ s) := by rw [sh_1 (show f < 31 by omega), sh_1 (show s < 31 by omega), nI_or]
      have e2 : (nI 1 <<< (nI f &&& 31) ||| nI 1 <<< (nI s &&& 31)) &&& nI (dq_mask t) = nI ((2 ^ f ||| 2 ^ s) &&& dq_mask t) := by rw [e1, nI_and]
      have hl := two_lt hf (show s < 9 by omega)
      have hl2 : (2 ^ f ||| 2 ^ s) &&& dq_mask t < 512 := Nat.lt_of_le_of_lt Nat.and_le_left hl
      have e3 : nI p * cst 512 + (nI 1 <<< (nI f &&& 31) ||| nI 1 <<< (nI s &&& 31)) = nI (512 * p + (2 ^ f ||| 2 ^ s)) := by rw [e1, show cst 512 = nI 512 from rfl, pk_mul, nI_add, Nat.mul_comm]
      have hsh : ∀ (m : Nat) (h : NA) (s : Nat), iS h s (m + 1) = h s + iS h (s + 1) m := by
        intro m
        induction m with
        | zero => intro h s; show 0 + h (s + 0) = h s + 0; rw [Nat.zero_add]; rfl
        | succ m ihm =>
          intro h s
          show iS h s (m + 1) + h (s + (m + 1)) = h s + (iS h (s + 1) m + h (s + 1 + m))
          rw [ihm, Nat.add_assoc, show s + (m + 1) = s + 1 + m by omega]
      rw [hsh, ← Nat.add_assoc] at k
      refine hP _ _ _ _ ?_; (conv => whnf)
      refine b2 s 9 rfl rfl (by omega) (by omega) (fun (q : 9 ≤ s) => by omega) (fun _ => ?_); (conv => whnf)
      refine b1 _ e2 (by omega) (fun (q : ¬ (2 ^ f ||| 2 ^ s) &&& dq_mask t = 0) => ?_) (fun (q : ¬ ¬ (2 ^ f ||| 2 ^ s) &&& dq_mask t = 0) => ?_)
      · refine hP _ _ _ _ ?_; (conv => whnf)
        refine hP _ _ _ _ ?_; (conv => whnf)
        have e4 : wnT wh p (dq_mask t) f s = 0 := by unfold wnT; rw [nbf q]; rfl
        rw [e4] at k
        exact ih f (s + 1) _ _ (v + 0) hf (by omega) (by omega) (nI_1 s) (nI_add v 0) k
      · (conv => whnf)
        refine ⟨vi e3 (show 512 * p + (2 ^ f ||| 2 ^ s) < 1536 by omega) (by decide), ?_⟩; (conv => whnf)
        refine hP _ _ _ _ ?_; (conv => whnf)
        have e4 : wnT wh p (dq_mask t) f s = wh (512 * p + (2 ^ f ||| 2 ^ s)) := by unfold wnT; rw [nbt (Decidable.of_not_not q)]; rfl
        refine ih f (s + 1) _ _ (v + wnT wh p (dq_mask t) f s) hf (by omega) (by omega) (nI_1 s) ?_ k
        rw [e4, ← nI_add]
        have e5 : nA wh (nI p * cst 512 + (nI 1 <<< (nI f &&& 31) ||| nI 1 <<< (nI s &&& 31))).toNatClampNeg = nI (wh (512 * p + (2 ^ f ||| 2 ^ s))) := by rw [e3, nI_clamp (by omega)]; rfl
        rw [← e5]
        rfl
  have out : ∀ (n f : Nat) (a x : Int32), f + n = 9 → x = nI f → a = nI (oS (wnT wh p (dq_mask t)) f) → P 22 [some (.ref 0), some (.int (nI p)), none, some (.int (nI (dq_mask t))), some (.int a), some (.int x), none, none] [] (mX0 (nI T) fr (nA ca) (nA ie) (nA wh) (nA hb) so) := by
    intro n
    induction n with
    | zero =>
      intro f a x hf hx ha
      have hf : f = 9 := hf
      subst hf
      refine hP _ _ _ _ ?_; (conv => whnf)
      refine b2 9 9 hx rfl (by omega) (by omega) (fun _ => ?_) (fun (q : ¬ 9 ≤ 9) => by omega)
      refine hP _ _ _ _ ?_; (conv => whnf)
      exact ⟨rfl, ⟨.int, rfl, rfl⟩, rI (ha), rfl⟩
    | succ n ih =>
      intro f a x hf hx ha
      subst hx
      refine hP _ _ _ _ ?_; (conv => whnf)
      refine b2 f 9 rfl rfl (by omega) (by omega) (fun (q : 9 ≤ f) => by omega) (fun _ => ?_); (conv => whnf)
      refine inn (8 - f) f (f + 1) _ _ (oS (wnT wh p (dq_mask t)) f) (by omega) (by omega) (by omega) (nI_1 f) ha (fun a' ha' => ?_)
      refine hP _ _ _ _ ?_; (conv => whnf)
      exact ih (f + 1) _ _ (by omega) (nI_1 f) ha'
  exact out 9 0 _ _ rfl rfl rfl
theorem s_behindQuestion {p t : Nat} (hp : p < 3) (ht : t < 27) (hw : wnS wh p t ≤ T) (hT : T < 2 ^ 31) : Cl (d + 4) kX0_behindQuestion [.ref 0, .int (nI p), .int (nI t)] (mX0 (nI T) fr (nA ca) (nA ie) (nA wh) (nA hb) so) (.inl (some (.int (nI (lvs T (wnS wh p t)))))) (mX0 (nI T) fr (nA ca) (nA ie) (nA wh) (nA hb) so) := by
  refine Cl_go e_X0_behindQuestion (Nat.le_of_ble_eq_true rfl) rfl ?_; intro P hP; refine hP _ _ _ _ ?_; (conv => whnf)
  refine ⟨Nat.le_of_ble_eq_true rfl, rfl, ?_⟩; (conv => whnf)
  refine Or.inl ⟨_, _, s_withNone hp ht, ?_⟩; (conv => whnf)
  refine ⟨Nat.le_of_ble_eq_true rfl, ?_⟩; (conv => whnf)
  have e : (if nI (wnS wh p t) < nI T - nI (wnS wh p t) then nI T - nI (wnS wh p t) else nI (wnS wh p t)) = nI (lvs T (wnS wh p t)) := by
    rw [pk_sub hw]
    unfold lvs
    by_cases h : wnS wh p t < T - wnS wh p t
    · rw [if_pos h, if_pos ((nI_ltI (by omega) (by omega)).mpr h)]
    · rw [if_neg h, if_neg (fun z => h ((nI_ltI (by omega) (by omega)).mp z))]
  exact ⟨rfl, ⟨.int, rfl, rfl⟩, rI (e), rfl⟩
theorem s_sharpestQuestion {p : Nat} (hp : p < 3) (hw : ∀ t, t < 27 → wnS wh p t ≤ T) (hT : T < 2 ^ 31) : Cl (d + 5) kX0_sharpestQuestion [.ref 0, .int (nI p)] (mX0 (nI T) fr (nA ca) (nA ie) (nA wh) (nA hb) so) (.inl (some (.int (nI (amn (fun t => lvs T (wnS wh p t)) 26))))) (mX0 (nI T) fr (nA ca) (nA ie) (nA wh) (nA hb) so) := by
  have hlv : ∀ t, t < 27 → lvs T (wnS wh p t) < 2 ^ 31 := fun t ht => by
    have := hw t ht
    unfold lvs
    split <;> omega
  refine Cl_go e_X0_sharpestQuestion (Nat.le_of_ble_eq_true rfl) rfl ?_; intro P hP; refine hP _ _ _ _ ?_; (conv => whnf)
  refine ⟨Nat.le_of_ble_eq_true rfl, rfl, ?_⟩; (conv => whnf)
  refine Or.inl ⟨_, _, s_behindQuestion hp (t := 0) (by decide) (hw 0 (by decide)) hT, ?_⟩; (conv => whnf)
  have lp : ∀ (n i : Nat) (a b x : Int32), i + n = 26 → a = nI (amn (fun t => lvs T (wnS wh p t)) i) → b = nI (lvs T (wnS wh p (amn (fun t => lvs T (wnS wh p t)) i))) → x = nI (i + 1) →
      P 12 [some (.ref 0), some (.int (nI p)), some (.int a), some (.int b), some (.int x), none] [] (mX0 (nI T) fr (nA ca) (nA ie) (nA wh) (nA hb) so) := by
    intro n
    induction n with
    | zero =>
      intro i a b x hi ha hb hx
      have hi : i = 26 := hi
      subst hi
      refine hP _ _ _ _ ?_; (conv => whnf)
      refine b2 27 27 hx rfl (by omega) (by omega) (fun _ => ?_) (fun (h : ¬ 27 ≤ 27) => by omega)
      refine hP _ _ _ _ ?_; (conv => whnf)
      exact ⟨rfl, ⟨.int, rfl, rfl⟩, rI (ha), rfl⟩
    | succ n ih =>
      intro i a b x hi ha hb hx
      subst ha
      subst hb
      subst hx
      have hle := amn_le (fun t => lvs T (wnS wh p t)) i
      refine hP _ _ _ _ ?_; (conv => whnf)
      refine b2 (i + 1) 27 rfl rfl (by omega) (by omega) (fun (h : 27 ≤ i + 1) => by omega) (fun _ => ?_); (conv => whnf)
      refine ⟨Nat.le_of_ble_eq_true rfl, rfl, ?_⟩; (conv => whnf)
      refine Or.inl ⟨_, _, s_behindQuestion hp (show i + 1 < 27 by omega) (hw _ (by omega)) hT, ?_⟩; (conv => whnf)
      have es : amn (fun t => lvs T (wnS wh p t)) (i + 1) = if lvs T (wnS wh p (i + 1)) < lvs T (wnS wh p (amn (fun t => lvs T (wnS wh p t)) i)) then i + 1 else amn (fun t => lvs T (wnS wh p t)) i := rfl
      refine b2 (lvs T (wnS wh p (i + 1))) (lvs T (wnS wh p (amn (fun t => lvs T (wnS wh p t)) i))) rfl rfl (hlv _ (by omega)) (hlv _ (by omega)) (fun (h : lvs T (wnS wh p (amn (fun t => lvs T (wnS wh p t)) i)) ≤ lvs T (wnS wh p (i + 1))) => ?_) (fun (h : ¬ lvs T (wnS wh p (amn (fun t => lvs T (wnS wh p t)) i)) ≤ lvs T (wnS wh p (i + 1))) => ?_)
      · refine hP _ _ _ _ ?_; (conv => whnf)
        rw [if_neg (by omega)] at es
        refine ih (i + 1) _ _ _ (by omega) ?_ ?_ (nI_1 (i + 1))
        · rw [es]
        · rw [es]
      · (conv => whnf)
        refine hP _ _ _ _ ?_; (conv => whnf)
        rw [if_pos (by omega)] at es
        refine ih (i + 1) _ _ _ (by omega) ?_ ?_ (nI_1 (i + 1))
        · rw [es]
        · rw [es]
  exact lp 26 0 _ _ _ rfl rfl rfl rfl
theorem s_withoutClue {k : Nat} (hk : k < 20) : Cl (d + 1) kX0_withoutClue [.ref 0, .int (nI k)] (mX0 (nI T) fr (nA ca) (nA ie) (nA wh) (nA hb) so) (.inl (some (.int (nI (T + hb k))))) (mX0 (nI T) fr (nA ca) (nA ie) (nA wh) (nA hb) so) := by
  refine Cl_go e_X0_withoutClue (Nat.le_of_ble_eq_true rfl) rfl ?_; intro P hP; refine hP _ _ _ _ ?_; (conv => whnf)
  refine b1 k rfl (by omega) (fun (q : k < 0) => by omega) (fun _ => ?_); (conv => whnf)
  refine b2 k 20 rfl rfl (by omega) (by omega) (fun (q : 20 ≤ k) => by omega) (fun _ => ?_); (conv => whnf)
  refine ⟨vi rfl hk (by decide), ?_⟩; (conv => whnf)
  refine hP _ _ _ _ ?_; (conv => whnf)
  have e : nI T + nA hb (nI k).toNatClampNeg = nI (T + hb k) := by rw [nI_clamp (by omega), ← nI_add]; rfl
  exact ⟨rfl, ⟨.int, rfl, rfl⟩, rI (e), rfl⟩
theorem s_idleAmong {m : Nat} (hm : m ≤ 20) (hV : ∀ k, k < 20 → T + hb k < 2 ^ 31) : Cl (d + 2) kX0_idleAmong [.ref 0, .int (nI m)] (mX0 (nI T) fr (nA ca) (nA ie) (nA wh) (nA hb) so) (.inl (some (.int (nI (cntN (fun k => Nat.beq (T + hb k) T) m))))) (mX0 (nI T) fr (nA ca) (nA ie) (nA wh) (nA hb) so) := by
  refine Cl_go e_X0_idleAmong (Nat.le_of_ble_eq_true rfl) rfl ?_; intro P hP; refine hP _ _ _ _ ?_; (conv => whnf)
  have lp : ∀ (n i : Nat) (a x : Int32), i + n = m → a = nI (cntN (fun k => Nat.beq (T + hb k) T) i) → x = nI i → P 4 [some (.ref 0), some (.int (nI m)), some (.int a), some (.int x)] [] (mX0 (nI T) fr (nA ca) (nA ie) (nA wh) (nA hb) so) := by
    intro n
    induction n with
    | zero =>
      intro i a x hi ha hx
      have hi : i = m := hi
      subst hi
      refine hP _ _ _ _ ?_; (conv => whnf)
      refine b2 i i hx rfl (by omega) (by omega) (fun _ => ?_) (fun (h : ¬ i ≤ i) => by omega)
      refine hP _ _ _ _ ?_; (conv => whnf)
      exact ⟨rfl, ⟨.int, rfl, rfl⟩, rI (ha), rfl⟩
    | succ n ih =>
      intro i a x hi ha hx
      subst hx
      have h1 := hV i (by omega)
      refine hP _ _ _ _ ?_; (conv => whnf)
      refine b2 i m rfl rfl (by omega) (by omega) (fun (h : m ≤ i) => by omega) (fun _ => ?_); (conv => whnf)
      refine ⟨Nat.le_of_ble_eq_true rfl, rfl, ?_⟩; (conv => whnf)
      refine Or.inl ⟨_, _, s_withoutClue (show i < 20 by omega), ?_⟩; (conv => whnf)
      refine b2 (T + hb i) T rfl rfl h1 (by omega) (fun (h : ¬ T + hb i = T) => ?_) (fun (h : ¬ ¬ T + hb i = T) => ?_)
      · refine hP _ _ _ _ ?_; (conv => whnf)
        refine hP _ _ _ _ ?_; (conv => whnf)
        refine ih (i + 1) _ _ (by omega) ?_ (nI_1 i)
        rw [ha]; exact cntN_f (nbf h)
      · (conv => whnf)
        refine hP _ _ _ _ ?_; (conv => whnf)
        refine ih (i + 1) _ _ (by omega) ?_ (nI_1 i)
        rw [ha]; exact cntN_t (nbt (Decidable.of_not_not h))
  exact lp m 0 _ _ (by omega) rfl rfl
end LOOKS
