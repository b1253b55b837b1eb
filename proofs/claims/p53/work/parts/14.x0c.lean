/-! the counter of deals: what the counts say -/
def isA (cl : List rl_C) (m : Nat) : Bool := match bdD cl m cl.length with
  | [] => true
  | _ => false
def isK (cl : List rl_C) (m k : Nat) : Bool := match bdD cl m cl.length with
  | [i] => Nat.beq k i
  | _ => false
def atC (m j : Nat) : Bool := decide (j / 4 < 9 ∧ (dq_hn m (j % 4)).testBit (j / 4) = true)
def atH (m j : Nat) : Bool := decide (j / 512 < 3 ∧ dq_hn m (j / 512) = j % 512)
theorem nbq (a b : Nat) : (Nat.beq a b = true) = (a = b) := propext ⟨Nat.eq_of_beq_eq_true, nbt⟩
theorem ct_jd_eq (cl : List rl_C) (x : Nat × Nat) (c : CT) : ct_jd cl x c =
    (c.1 + (if isA cl x.2 = true then 1 else 0), fun j => c.2.1 j + (if (isA cl x.2 && atC x.2 j) = true then 1 else 0), fun j => c.2.2.1 j + (if (isA cl x.2 && Nat.beq j x.1) = true then 1 else 0),
      fun j => c.2.2.2.1 j + (if (isA cl x.2 && atH x.2 j) = true then 1 else 0), fun j => c.2.2.2.2 j + (if isK cl x.2 j = true then 1 else 0)) := by
  unfold ct_jd isA isK
  match bdD cl x.2 cl.length with
  | [] =>
    show ct_in x.1 x.2 c = _
    unfold ct_in inc1 whI atC atH
    simp only [Bool.true_and, decide_eq_true_eq, if_true, Bool.false_eq_true, if_false, Nat.add_zero, nbq]
  | [k] =>
    show (c.1, c.2.1, c.2.2.1, c.2.2.2.1, inc1 k c.2.2.2.2) = _
    unfold inc1
    simp only [Bool.false_and, Bool.false_eq_true, if_false, Nat.add_zero, nbq]
  | a :: b :: l =>
    simp only [Bool.false_and, Bool.false_eq_true, if_false, Nat.add_zero]
theorem fdC_val (cl : List rl_C) : ∀ (L : List dq_L) (c : CT), fdC cl L c =
    (c.1 + L.countP (fun x => isA cl x.2), fun j => c.2.1 j + L.countP (fun x => isA cl x.2 && atC x.2 j), fun j => c.2.2.1 j + L.countP (fun x => isA cl x.2 && Nat.beq j x.1),
      fun j => c.2.2.2.1 j + L.countP (fun x => isA cl x.2 && atH x.2 j), fun j => c.2.2.2.2 j + L.countP (fun x => isK cl x.2 j)) := by
  intro L
  induction L with
  | nil => intro c; rfl
  | cons a r ih =>
    intro c
    show fdC cl r (ct_jd cl a c) = _
    rw [ih, ct_jd_eq]
    simp only [List.countP_cons, Nat.add_assoc, Nat.add_comm, Nat.add_left_comm]
theorem cnt_perm {L : List Nat} {M : List Nat} (h : L.Perm M) (p : Nat → Bool) : L.countP p = M.countP p := h.countP_eq p
theorem cnt_map {α : Type} (L : List α) (g : α → Nat) (p : Nat → Bool) : L.countP (fun x => p (g x)) = (L.map g).countP p := by
  rw [List.countP_map]; rfl
theorem cnt_1 (p : Nat → Bool) : dq_1.countP (fun x => p x.2) = dq_D.countP p := by
  rw [cnt_map dq_1 (fun x => x.2) p]; exact cnt_perm dq_perm1 p
def dT (cl : List rl_C) : Nat := dq_D.countP (isA cl)
def dCA (cl : List rl_C) (c p : Nat) : Nat := dq_D.countP (fun m => isA cl m && (dq_hn m p).testBit c)
def dIE (cl : List rl_C) (t : Nat) : Nat := dq_D.countP (fun m => isA cl m && Nat.beq (dq_hn m 3) (dq_mask t))
def dWH (cl : List rl_C) (p s : Nat) : Nat := dq_D.countP (fun m => isA cl m && Nat.beq (dq_hn m p) s)
def dHB (cl : List rl_C) (k : Nat) : Nat := dq_D.countP (fun m => isK cl m k)
set_option maxRecDepth 1000000 in
theorem dq_1t : dq_1.all (fun x => Nat.blt x.1 27 && Nat.beq (dq_hn x.2 3) (dq_mask x.1)) = true := by decide +kernel
theorem mask_inj_all : (List.range 27).all (fun s => (List.range 27).all (fun t => Nat.beq s t || !Nat.beq (dq_mask s) (dq_mask t))) = true := by decide +kernel
theorem mask_inj {s t : Nat} (hs : s < 27) (ht : t < 27) (h : dq_mask s = dq_mask t) : s = t := by
  have h1 := List.all_eq_true.mp (List.all_eq_true.mp mask_inj_all s (List.mem_range.mpr hs)) t (List.mem_range.mpr ht)
  rw [nbt h] at h1
  simp only [Bool.not_true, Bool.or_false] at h1
  exact Nat.eq_of_beq_eq_true h1
theorem cnt_congr {α : Type} {p q : α → Bool} : ∀ (l : List α), (∀ x ∈ l, p x = q x) → l.countP p = l.countP q := by
  intro l
  induction l with
  | nil => intro _; rfl
  | cons a r ih =>
    intro h
    rw [List.countP_cons, List.countP_cons, ih (fun x hx => h x (List.mem_cons_of_mem _ hx)), h a List.mem_cons_self]
/-- the counts as they should be -/
def dcOK (cl : List rl_C) (ct : CT) : Prop := ct.1 = dT cl ∧ (∀ c p, c < 9 → p < 4 → ct.2.1 (4 * c + p) = dCA cl c p) ∧ (∀ t, t < 27 → ct.2.2.1 t = dIE cl t) ∧ (∀ p s, p < 3 → s < 512 → ct.2.2.2.1 (512 * p + s) = dWH cl p s) ∧ (∀ k, k < 20 → ct.2.2.2.2 k = dHB cl k)
def clrF (n : Nat) (f : NA) : NA := fun j => if j < n then 0 else f j
theorem clr_nA (n : Nat) (f : NA) : clrN n (nA f) = nA (clrF n f) := by
  funext j
  unfold clrN clrF nA
  by_cases h : j < n
  · rw [if_pos h]; show nI 0 = nI (if j < n then 0 else f j); rw [if_pos h]
  · rw [if_neg h]; show nI (f j) = nI (if j < n then 0 else f j); rw [if_neg h]
theorem dc_ok (cl : List rl_C) (ca ie wh hb : NA) : dcOK cl (fdC cl dq_1 (0, clrF 36 ca, clrF 27 ie, clrF 1536 wh, clrF 20 hb)) := by
  rw [fdC_val]
  refine ⟨?_, fun c p hc hp => ?_, fun t ht => ?_, fun p s hp hs => ?_, fun k hk => ?_⟩
  · show 0 + _ = _
    rw [Nat.zero_add]; exact cnt_1 (isA cl)
  · show clrF 36 ca (4 * c + p) + _ = _
    unfold clrF
    rw [if_pos (by omega), Nat.zero_add, cnt_1 (fun m => isA cl m && atC m (4 * c + p))]
    refine cnt_congr _ (fun m _ => ?_)
    unfold atC
    rw [show (4 * c + p) / 4 = c by omega, show (4 * c + p) % 4 = p by omega]
    cases h : (dq_hn m p).testBit c with
    | true => rw [decide_eq_true ⟨hc, rfl⟩]
    | false => rw [decide_eq_false (fun z => by cases z.2)]
  · show clrF 27 ie t + _ = _
    unfold clrF
    rw [if_pos (by omega), Nat.zero_add]
    refine Eq.trans (cnt_congr (q := fun x => isA cl x.2 && Nat.beq (dq_hn x.2 3) (dq_mask t)) _ (fun x hx => ?_)) (cnt_1 (fun m => isA cl m && Nat.beq (dq_hn m 3) (dq_mask t)))
    have h1 := List.all_eq_true.mp dq_1t x hx
    rw [Bool.and_eq_true] at h1
    have h2 := Nat.eq_of_beq_eq_true h1.2
    have h3 : x.1 < 27 := Nat.le_of_ble_eq_true h1.1
    congr 1
    by_cases he : t = x.1
    · rw [nbt he, nbt (by rw [h2, he])]
    · rw [nbf he, nbf (fun z => he (mask_inj ht h3 (by rw [← z, h2])))]
  · show clrF 1536 wh (512 * p + s) + _ = _
    unfold clrF
    rw [if_pos (by omega), Nat.zero_add, cnt_1 (fun m => isA cl m && atH m (512 * p + s))]
    refine cnt_congr _ (fun m _ => ?_)
    unfold atH
    rw [show (512 * p + s) / 512 = p by omega, show (512 * p + s) % 512 = s by omega]
    congr 1
    by_cases h : dq_hn m p = s
    · rw [decide_eq_true ⟨hp, h⟩, nbt h]
    · rw [decide_eq_false (fun z => h z.2), nbf h]
  · show clrF 20 hb k + _ = _
    unfold clrF
    rw [if_pos (by omega), Nat.zero_add]
    exact cnt_1 (fun m => isK cl m k)
section COUNT
variable {d : Nat} {tot fr : Int32} {ca ie wh hb : NA} {so kd pl cd : IA} {prt why : Int32}
theorem s_count {cl : List rl_C} {ctf : CT} (hf : fdC cl dq_1 (0, clrF 36 ca, clrF 27 ie, clrF 1536 wh, clrF 20 hb) = ctf) (hcl : clM cl kd pl cd) (hn : cl.length ≤ 20) (ok : okC cl) :
    Cl (d + 13) kX0_count [.ref 0, .ref 6] (mXS tot fr (nA ca) (nA ie) (nA wh) (nA hb) so kd pl cd (nI cl.length) prt why) (.inl none)
      (mCT ctf (nI 1) (clrN 4 so) kd pl cd (nI cl.length) prt why) := by
  refine Cl_go e_X0_count (Nat.le_of_ble_eq_true rfl) rfl ?_; intro P hP; refine hP _ _ _ _ ?_; (conv => whnf)
  refine ⟨⟨rfl, rfl⟩, ?_⟩; (conv => whnf)
  refine ⟨Nat.le_of_ble_eq_true rfl, rfl, ?_⟩; (conv => whnf)
  refine Or.inl ⟨_, _, Cl_wr [1] (s_clear (n := 36) (f := nA ca) (by decide)) 1 rfl rfl ⟨rfl, trivial⟩ (mXS (nI 0) fr (clrN 36 (nA ca)) (nA ie) (nA wh) (nA hb) so kd pl cd (nI cl.length) prt why) rfl, ?_⟩; (conv => whnf)
  refine ⟨Nat.le_of_ble_eq_true rfl, rfl, ?_⟩; (conv => whnf)
  refine Or.inl ⟨_, _, Cl_wr [2] (s_clear (n := 27) (f := nA ie) (by decide)) 1 rfl rfl ⟨rfl, trivial⟩ (mXS (nI 0) fr (clrN 36 (nA ca)) (clrN 27 (nA ie)) (nA wh) (nA hb) so kd pl cd (nI cl.length) prt why) rfl, ?_⟩; (conv => whnf)
  refine ⟨Nat.le_of_ble_eq_true rfl, rfl, ?_⟩; (conv => whnf)
  refine Or.inl ⟨_, _, Cl_wr [3] (s_clear (n := 1536) (f := nA wh) (by decide)) 1 rfl rfl ⟨rfl, trivial⟩ (mXS (nI 0) fr (clrN 36 (nA ca)) (clrN 27 (nA ie)) (clrN 1536 (nA wh)) (nA hb) so kd pl cd (nI cl.length) prt why) rfl, ?_⟩; (conv => whnf)
  refine ⟨Nat.le_of_ble_eq_true rfl, rfl, ?_⟩; (conv => whnf)
  refine Or.inl ⟨_, _, Cl_wr [4] (s_clear (n := 20) (f := nA hb) (by decide)) 1 rfl rfl ⟨rfl, trivial⟩ (mXS (nI 0) fr (clrN 36 (nA ca)) (clrN 27 (nA ie)) (clrN 1536 (nA wh)) (clrN 20 (nA hb)) so kd pl cd (nI cl.length) prt why) rfl, ?_⟩; (conv => whnf)
  refine ⟨Nat.le_of_ble_eq_true rfl, rfl, ?_⟩; (conv => whnf)
  refine Or.inl ⟨_, _, Cl_wr [5] (s_clear (n := 4) (f := so) (by decide)) 1 rfl rfl ⟨rfl, trivial⟩ (mCT (0, clrF 36 ca, clrF 27 ie, clrF 1536 wh, clrF 20 hb) fr (clrN 4 so) kd pl cd (nI cl.length) prt why) (by unfold mCT; rw [← clr_nA, ← clr_nA, ← clr_nA, ← clr_nA]; rfl), ?_⟩; (conv => whnf)
  refine ⟨Nat.le_of_ble_eq_true rfl, rfl, ?_⟩; (conv => whnf)
  have hd : Cl (d + 12) kX0_dealFrom [.int (nI 0), .int (nI 0), .ref 0, .ref 6] (mCT (0, clrF 36 ca, clrF 27 ie, clrF 1536 wh, clrF 20 hb) fr (clrN 4 so) kd pl cd (nI cl.length) prt why) (.inl none)
      (mCT ctf fr (clrN 4 so) kd pl cd (nI cl.length) prt why) := by
    rw [← hf]
    exact s_dealFrom hcl hn ok d 9 0 0 0 _ _ rfl (fun x hx => Nat.le_of_ble_eq_true ((Bool.and_eq_true _ _ ▸ List.all_eq_true.mp dq_1t x hx).1)) (fun p hp => by
      show clrN 4 so p = nI (0 / 512 ^ p % 512)
      rw [Nat.zero_div]; exact if_pos hp) (fun p _ => by
      show 0 / 512 ^ p % 512 < 1
      rw [Nat.zero_div]; decide)
  refine Or.inl ⟨_, _, hd, ?_⟩; (conv => whnf)
  refine ⟨⟨rfl, rfl⟩, ?_⟩; (conv => whnf)
  exact ⟨rfl, rfl, rfl, rfl⟩
end COUNT
