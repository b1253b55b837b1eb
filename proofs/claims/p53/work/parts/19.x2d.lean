/-! the sheet of rules: turns until nothing is crossed off -/
def itF (f : rl_V → rl_V) : Nat → rl_V → rl_V
  | 0, v => v
  | n + 1, v => f (itF f n v)
theorem itF_ok {f : rl_V → rl_V} (hf : ∀ v, rl_ok v → rl_ok (f v)) {v : rl_V} (hv : rl_ok v) : ∀ n, rl_ok (itF f n v) := by
  intro n
  induction n with
  | zero => exact hv
  | succ n ih => exact hf _ ih
/-- there is a first turn that leaves as many -/
theorem fix_ex {f : rl_V → rl_V} (hf : ∀ v, rl_ok v → rl_ok (f v) ∧ rl_le (f v) v) {v : rl_V} (hv : rl_ok v) :
    ∃ k, 1 ≤ k ∧ k ≤ 37 ∧ (∀ i, i + 1 < k → rl_sum 9 (itF f (i + 1) v) < rl_sum 9 (itF f i v)) ∧ rl_sum 9 (itF f k v) = rl_sum 9 (itF f (k - 1) v) := by
  have hok := itF_ok (fun v hv => (hf v hv).1) hv
  have hle : ∀ i, rl_sum 9 (itF f (i + 1) v) ≤ rl_sum 9 (itF f i v) := fun i => (rl_sum_le (hok (i + 1)) (hok i) (hf _ (hok i)).2 9 (by decide)).1
  have key : ∀ n k, k + n = 37 → (∀ i, i < k → rl_sum 9 (itF f (i + 1) v) < rl_sum 9 (itF f i v)) → rl_sum 9 (itF f k v) + k ≤ 36 →
      ∃ k, 1 ≤ k ∧ k ≤ 37 ∧ (∀ i, i + 1 < k → rl_sum 9 (itF f (i + 1) v) < rl_sum 9 (itF f i v)) ∧ rl_sum 9 (itF f k v) = rl_sum 9 (itF f (k - 1) v) := by
    intro n
    induction n with
    | zero => intro k hk _ hs; omega
    | succ n ih =>
      intro k hk h hs
      by_cases he : rl_sum 9 (itF f (k + 1) v) = rl_sum 9 (itF f k v)
      · exact ⟨k + 1, by omega, by omega, fun i hi => h i (by omega), he⟩
      · have h1 := hle k
        refine ih (k + 1) (by omega) (fun i hi => ?_) (by omega)
        by_cases hik : i = k
        · rw [hik]; omega
        · exact h i (by omega)
  exact key 37 0 rfl (fun i hi => absurd hi (Nat.not_lt_zero i)) (rl_sum_36 _)
/-- steps that change the nine cards alone -/
def far (f : rl_V → rl_V) : Prop := ∀ v c, ¬ c < 9 → f v c = v c
theorem far_eq {f : rl_V → rl_V} (h : far f) {v : rl_V} (he : ∀ c, c < 9 → f v c = v c) : f v = v := by
  funext c
  by_cases hc : c < 9
  · exact he c hc
  · exact h v c hc
theorem far_keep (cards place : Nat) : far (rl_keep cards place) := fun v c hc => if_neg (fun z => hc z.1)
theorem far_lose (cards place : Nat) : far (rl_lose cards place) := fun v c hc => if_neg (fun z => hc z.1)
theorem far_fix (cards place : Nat) : far (rl_fix cards place) := fun v c hc => if_neg (fun z => hc z.1)
theorem far_bar (cards place : Nat) : far (rl_bar cards place) := fun v c hc => if_neg (fun z => hc z.1)
theorem far_kj (n cards place : Nat) : far (rl_kj n cards place) := by
  intro v c hc
  unfold rl_kj; split
  · exact far_fix _ _ v c hc
  · rfl
theorem far_cs (n cards place : Nat) : far (rl_cs n cards place) := by
  intro v c hc
  unfold rl_cs; split
  · exact far_bar _ _ v c hc
  · rfl
theorem far_cp (cards place : Nat) : far (rl_cp cards place) := by
  intro v c hc
  unfold rl_cp; split
  · exact far_bar _ _ v c hc
  · rfl
theorem far_cl (x : rl_C) : far (rl_cl x) := by
  intro v c hc
  unfold rl_cl
  split
  · exact far_keep _ _ v c hc
  · split
    · exact far_lose _ _ v c hc
    · split
      · exact far_kj _ _ _ v c hc
      · exact far_cs _ _ _ v c hc
/-- one step behind another: if as many are left behind all, none changed a thing -/
def apl (l : List (rl_V → rl_V)) (v : rl_V) : rl_V := l.foldl (fun v f => f v) v
def shr (f : rl_V → rl_V) : Prop := far f ∧ ∀ v, rl_ok v → rl_ok (f v) ∧ rl_le (f v) v
theorem apl_ok : ∀ (l : List (rl_V → rl_V)), (∀ f ∈ l, shr f) → ∀ v, rl_ok v → rl_ok (apl l v) ∧ rl_le (apl l v) v := by
  intro l
  induction l with
  | nil => intro _ v hv; exact ⟨hv, rl_le_refl v⟩
  | cons f r ih =>
    intro h v hv
    obtain ⟨a1, a2⟩ := (h f List.mem_cons_self).2 v hv
    obtain ⟨b1, b2⟩ := ih (fun g hg => h g (List.mem_cons_of_mem _ hg)) (f v) a1
    exact ⟨b1, rl_le_trans b2 a2⟩
theorem apl_far : ∀ (l : List (rl_V → rl_V)), (∀ f ∈ l, shr f) → far (apl l) := by
  intro l
  induction l with
  | nil => intro _ v c _; rfl
  | cons f r ih =>
    intro h v c hc
    show apl r (f v) c = v c
    rw [ih (fun g hg => h g (List.mem_cons_of_mem _ hg)) (f v) c hc]
    exact (h f List.mem_cons_self).1 v c hc
theorem apl_fix : ∀ (l : List (rl_V → rl_V)), (∀ f ∈ l, shr f) → ∀ v, rl_ok v → rl_sum 9 (apl l v) = rl_sum 9 v → ∀ f ∈ l, f v = v := by
  intro l
  induction l with
  | nil => intro _ v _ _ f hf; cases hf
  | cons f r ih =>
    intro h v hv hs g hg
    have hr : ∀ f ∈ r, shr f := fun g hg => h g (List.mem_cons_of_mem _ hg)
    obtain ⟨a1, a2⟩ := (h f List.mem_cons_self).2 v hv
    obtain ⟨b1, b2⟩ := apl_ok r hr (f v) a1
    have s1 := rl_sum_le a1 hv a2 9 (by decide)
    have s2 := rl_sum_le b1 a1 b2 9 (by decide)
    have hs : rl_sum 9 (apl r (f v)) = rl_sum 9 v := hs
    have e1 : rl_sum 9 (f v) = rl_sum 9 v := by omega
    have e2 : f v = v := far_eq (h f List.mem_cons_self).1 (s1.2 e1)
    rcases List.mem_cons.mp hg with e | e
    · rw [e]; exact e2
    · rw [e2] at hs
      exact ih hr v hv hs g e
theorem shr_cl (x : rl_C) : shr (rl_cl x) := ⟨far_cl x, fun _ hv => rl_cl_ok x hv⟩
theorem shr_kj (n cards place : Nat) : shr (rl_kj n cards place) := ⟨far_kj n cards place, fun _ hv => rl_kj_ok n cards place hv⟩
theorem shr_cs (n cards place : Nat) : shr (rl_cs n cards place) := ⟨far_cs n cards place, fun _ hv => rl_cs_ok n cards place hv⟩
theorem shr_cp (cards place : Nat) : shr (rl_cp cards place) := ⟨far_cp cards place, fun _ hv => rl_cp_ok cards place hv⟩
def tlC : List (rl_V → rl_V) := [rl_cs 1 (rl_kd 0) 3, rl_kj 1 (rl_kd 0) 3, rl_cs 1 (rl_kd 1) 3, rl_kj 1 (rl_kd 1) 3, rl_cs 1 (rl_kd 2) 3, rl_kj 1 (rl_kd 2) 3, rl_cs 2 511 0, rl_kj 2 511 0, rl_cs 2 511 1, rl_kj 2 511 1, rl_cs 2 511 2, rl_kj 2 511 2]
def tlM : List (rl_V → rl_V) := [rl_cp (rl_kd 0) 3, rl_kj 1 (rl_kd 0) 3, rl_cs 2 511 0, rl_kj 2 511 0, rl_cp (rl_kd 1) 3, rl_kj 1 (rl_kd 1) 3, rl_cs 2 511 1, rl_kj 2 511 1, rl_cp (rl_kd 2) 3, rl_kj 1 (rl_kd 2) 3, rl_cs 2 511 2, rl_kj 2 511 2]
theorem tlC_shr : ∀ f ∈ tlC, shr f := by
  intro f hf
  unfold tlC at hf
  simp only [List.mem_cons, List.not_mem_nil, or_false] at hf
  rcases hf with rfl | rfl | rfl | rfl | rfl | rfl | rfl | rfl | rfl | rfl | rfl | rfl
  all_goals first | exact shr_cs _ _ _ | exact shr_kj _ _ _
theorem tlM_shr : ∀ f ∈ tlM, shr f := by
  intro f hf
  unfold tlM at hf
  simp only [List.mem_cons, List.not_mem_nil, or_false] at hf
  rcases hf with rfl | rfl | rfl | rfl | rfl | rfl | rfl | rfl | rfl | rfl | rfl | rfl
  all_goals first | exact shr_cp _ _ | exact shr_cs _ _ _ | exact shr_kj _ _ _
theorem cls_apl : ∀ (cl : List rl_C) (v : rl_V), rl_cls cl v = apl (cl.map rl_cl) v := by
  intro cl
  induction cl with
  | nil => intro v; rfl
  | cons a r ih => intro v; exact ih (rl_cl a v)
theorem cl_shr (cl : List rl_C) : ∀ f ∈ cl.map rl_cl, shr f := by
  intro f hf
  obtain ⟨x, -, rfl⟩ := List.mem_map.mp hf
  exact shr_cl x
theorem all_shr {cl : List rl_C} {l : List (rl_V → rl_V)} (hl : ∀ f ∈ l, shr f) : ∀ f ∈ cl.map rl_cl ++ l, shr f := fun f hf => (List.mem_append.mp hf).elim (cl_shr cl f) (hl f)
theorem C1_apl (cl : List rl_C) (v : rl_V) : rl_C1 cl v = apl (cl.map rl_cl ++ tlC) v := by
  unfold apl
  rw [List.foldl_append]
  show rl_C1 cl v = apl tlC (apl (cl.map rl_cl) v)
  rw [← cls_apl]; rfl
theorem M1_apl (cl : List rl_C) (v : rl_V) : rl_M1 cl v = apl (cl.map rl_cl ++ tlM) v := by
  unfold apl
  rw [List.foldl_append]
  show rl_M1 cl v = apl tlM (apl (cl.map rl_cl) v)
  rw [← cls_apl]; rfl
theorem C1_shr (cl : List rl_C) : shr (rl_C1 cl) := by
  have e : rl_C1 cl = apl (cl.map rl_cl ++ tlC) := funext (C1_apl cl)
  rw [e]
  exact ⟨apl_far _ (all_shr tlC_shr), fun v hv => apl_ok _ (all_shr tlC_shr) v hv⟩
theorem M1_shr (cl : List rl_C) : shr (rl_M1 cl) := by
  have e : rl_M1 cl = apl (cl.map rl_cl ++ tlM) := funext (M1_apl cl)
  rw [e]
  exact ⟨apl_far _ (all_shr tlM_shr), fun v hv => apl_ok _ (all_shr tlM_shr) v hv⟩
theorem eq_rl {v w : rl_V} (h : v = w) : rl_eq v w := fun c _ => by rw [h]
theorem C1_fx {cl : List rl_C} {v : rl_V} (hv : rl_ok v) (hs : rl_sum 9 (rl_C1 cl v) = rl_sum 9 v) : rl_fx cl v ∧ rl_C1 cl v = v := by
  have hs2 := hs
  rw [C1_apl] at hs
  have k := apl_fix _ (all_shr tlC_shr) v hv hs
  have k1 : ∀ f ∈ tlC, f v = v := fun f hf => k f (List.mem_append_right _ hf)
  refine ⟨⟨fun x hx => eq_rl (k _ (List.mem_append_left _ (List.mem_map_of_mem hx))), fun j hj => ?_, fun p hp => ?_⟩, ?_⟩
  · have h3 : j = 0 ∨ j = 1 ∨ j = 2 := by omega
    unfold tlC at k1
    rcases h3 with rfl | rfl | rfl <;> exact ⟨eq_rl (k1 _ (by simp)), eq_rl (k1 _ (by simp))⟩
  · have h3 : p = 0 ∨ p = 1 ∨ p = 2 := by omega
    unfold tlC at k1
    rcases h3 with rfl | rfl | rfl <;> exact ⟨eq_rl (k1 _ (by simp)), eq_rl (k1 _ (by simp))⟩
  · have h1 := (C1_shr cl).2 v hv
    exact far_eq (C1_shr cl).1 ((rl_sum_le h1.1 hv h1.2 9 (by decide)).2 hs2)
theorem M1_fx {cl : List rl_C} {v : rl_V} (hv : rl_ok v) (hs : rl_sum 9 (rl_M1 cl v) = rl_sum 9 v) : rl_fx cl v ∧ rl_M1 cl v = v := by
  have hs2 := hs
  rw [M1_apl] at hs
  have k := apl_fix _ (all_shr tlM_shr) v hv hs
  have k1 : ∀ f ∈ tlM, f v = v := fun f hf => k f (List.mem_append_right _ hf)
  have kc : ∀ cards, rl_cp cards 3 v = v → rl_cs 1 cards 3 v = v := by
    intro cards h
    unfold rl_cs
    split
    · rename_i h1
      have e : rl_cp cards 3 v = rl_bar cards 3 v := if_pos (by rw [h1]; decide)
      rw [← e]; exact h
    · rfl
  refine ⟨⟨fun x hx => eq_rl (k _ (List.mem_append_left _ (List.mem_map_of_mem hx))), fun j hj => ?_, fun p hp => ?_⟩, ?_⟩
  · have h3 : j = 0 ∨ j = 1 ∨ j = 2 := by omega
    unfold tlM at k1
    rcases h3 with rfl | rfl | rfl <;> exact ⟨eq_rl (kc _ (k1 _ (by simp))), eq_rl (k1 _ (by simp))⟩
  · have h3 : p = 0 ∨ p = 1 ∨ p = 2 := by omega
    unfold tlM at k1
    rcases h3 with rfl | rfl | rfl <;> exact ⟨eq_rl (k1 _ (by simp)), eq_rl (k1 _ (by simp))⟩
  · have h1 := (M1_shr cl).2 v hv
    exact far_eq (M1_shr cl).1 ((rl_sum_le h1.1 hv h1.2 9 (by decide)).2 hs2)
theorem itF_rch {cl : List rl_C} {f : rl_V → rl_V} (hf : rl_good cl f) {v : rl_V} (hv : rl_rch cl v) : ∀ n, rl_rch cl (itF f n v) := by
  intro n
  induction n with
  | zero => exact hv
  | succ n ih => exact rl_rch_step hf ih
/-- what is left at the end -/
def rlE (cl : List rl_C) (v : rl_V) : Prop := rl_rch cl v ∧ rl_fx cl v
def set9 (x : Nat) (v : NA) : NA := fun j => if j < 9 then x else v j
theorem set9_nA (x : Nat) (v : NA) : cpy 9 (nA v) (fun _ => nI x) = nA (set9 x v) := by
  funext j
  unfold cpy nA set9
  by_cases h : j < 9
  · rw [if_pos h]; show nI x = nI (if j < 9 then x else v j); rw [if_pos h]
  · rw [if_neg h]; show nI (v j) = nI (if j < 9 then x else v j); rw [if_neg h]
section X2D
variable {d : Nat} {br fr : Int32} {v0 : NA} {kd pc cd : IA} {prt why : Int32}
theorem s_fill {cl : List rl_C} (hcl : clM cl kd pc cd) (hn : cl.length ≤ 20) (hok : ∀ x ∈ cl, rl_cok x) :
    ∃ v, rlE cl v ∧ Cl (d + 5) kX2_fill [.ref 0, .ref 2] (mX2S br fr (nA v0) kd pc cd (nI cl.length) prt why) (.inl none) (mX2S (bI (brk cl v)) (nI 1) (nA (bif brk cl v then set9 0 v else v)) kd pc cd (nI cl.length) prt why) := by
  have ok : okC cl := fun x hx => ⟨(hok x hx).1, (hok x hx).2.1, (hok x hx).2.2.1⟩
  have htop : rl_rch cl (set9 15 v0) := rl_rch_top cl (fun c hc => if_pos hc)
  have hv15 : rl_ok (set9 15 v0) := htop.1
  obtain ⟨k, k1, k2, k3, k4⟩ := fix_ex (C1_shr cl).2 hv15
  have hokI := itF_ok (fun v hv => ((C1_shr cl).2 v hv).1) hv15
  obtain ⟨kk, rfl⟩ : ∃ kk, k = kk + 1 := ⟨k - 1, by omega⟩
  have k4 : rl_sum 9 (rl_C1 cl (itF (rl_C1 cl) kk (set9 15 v0))) = rl_sum 9 (itF (rl_C1 cl) kk (set9 15 v0)) := k4
  obtain ⟨f1, f2⟩ := C1_fx (hokI kk) k4
  have hE : rlE cl (itF (rl_C1 cl) (kk + 1) (set9 15 v0)) := by
    show rlE cl (rl_C1 cl (itF (rl_C1 cl) kk (set9 15 v0)))
    rw [f2]
    exact ⟨itF_rch (rl_C1_good hok) htop kk, f1⟩
  generalize hvE : itF (rl_C1 cl) (kk + 1) (set9 15 v0) = vE at hE
  have hvok : rl_ok vE := hE.1.1
  refine ⟨vE, hE, ?_⟩
  have hsum15 : rl_sum 9 (set9 15 v0) = 36 := by
    have e : ∀ n, n ≤ 9 → rl_sum n (set9 15 v0) = 4 * n := by
      intro n
      induction n with
      | zero => intro _; rfl
      | succ n ih =>
        intro hn
        show rl_sum n (set9 15 v0) + rl_pc (set9 15 v0 n) = _
        rw [ih (by omega), show set9 15 v0 n = 15 from if_pos (by omega)]
        show 4 * n + 4 = _
        omega
    exact e 9 (by decide)
  refine Cl_go e_X2_fill (Nat.le_of_ble_eq_true rfl) rfl ?_; intro P hP; refine hP _ _ _ _ ?_; conv => whnf
  refine ⟨Nat.le_of_ble_eq_true rfl, rfl, ?_⟩; conv => whnf
  refine Or.inl ⟨_, _, Cl_wr [0, 1] (s_setAll (d := d + 3) (br := br) (fr := fr) (v := v0) (x := nI 15)) 2 rfl rfl ⟨rfl, rfl, trivial⟩ (mX2S br fr (nA (set9 15 v0)) kd pc cd (nI cl.length) prt why) (by rw [set9_nA]; rfl), ?_⟩; conv => whnf
  have fin : P 54 [some (.ref 0), some (.ref 2), none, none, none] [] (mX2S br fr (nA vE) kd pc cd (nI cl.length) prt why) := by
    have f75 : ∀ b : Bool, b = brk cl vE → P 75 [some (.ref 0), none, none, none, none] [.int (bI b), .ref 0] (mX2S br fr (nA vE) kd pc cd (nI cl.length) prt why) := by
      intro b hb
      rw [← hb] at hP
      refine hP _ _ _ _ ?_; conv => whnf
      cases b with
      | true =>
        refine ⟨⟨rfl, rfl⟩, ?_⟩; conv => whnf
        refine b1 1 rfl (by omega) (fun (q : 1 = 0) => by omega) (fun _ => ?_); conv => whnf
        refine ⟨Nat.le_of_ble_eq_true rfl, rfl, ?_⟩; conv => whnf
        refine Or.inl ⟨_, _, Cl_wr [0, 1] (s_setAll (d := d + 3) (br := bI true) (fr := fr) (v := vE) (x := nI 0)) 2 rfl rfl ⟨rfl, rfl, trivial⟩ (mX2S (bI true) fr (nA (set9 0 vE)) kd pc cd (nI cl.length) prt why) (by rw [set9_nA]; rfl), ?_⟩; conv => whnf
        refine hP _ _ _ _ ?_; conv => whnf
        refine ⟨⟨rfl, rfl⟩, ?_⟩; conv => whnf
        exact ⟨rfl, rfl, rfl, rfl⟩
      | false =>
        refine ⟨⟨rfl, rfl⟩, ?_⟩; conv => whnf
        refine b1 0 rfl (by omega) (fun _ => ?_) (fun (q : ¬ 0 = 0) => by omega)
        refine hP _ _ _ _ ?_; conv => whnf
        refine ⟨⟨rfl, rfl⟩, ?_⟩; conv => whnf
        exact ⟨rfl, rfl, rfl, rfl⟩
    refine hP _ _ _ _ ?_; conv => whnf
    refine ⟨Nat.le_of_ble_eq_true rfl, rfl, ?_⟩; conv => whnf
    refine Or.inl ⟨_, _, Cl_rd [0, 1] (s_breaksDown (d := d + 1) (br := br) (fr := fr) hvok) 2 rfl rfl ⟨rfl, rfl, trivial⟩, ?_⟩; conv => whnf
    cases hb : brD vE with
    | true =>
      refine b1 1 rfl (by omega) (fun _ => ?_) (fun (q : ¬ ¬ 1 = 0) => by omega)
      refine hP _ _ _ _ ?_; conv => whnf
      exact f75 true (by unfold brk; rw [hb]; rfl)
    | false =>
      refine b1 0 rfl (by omega) (fun (q : ¬ 0 = 0) => by omega) (fun _ => ?_); conv => whnf
      refine ⟨Nat.le_of_ble_eq_true rfl, rfl, ?_⟩; conv => whnf
      refine Or.inl ⟨_, _, s_breaksClue (d := d + 2) hcl hn ok hvok, ?_⟩; conv => whnf
      cases hc : cl.any (brC vE) with
      | true =>
        refine b1 1 rfl (by omega) (fun (q : 1 = 0) => by omega) (fun _ => ?_)
        show P 70 _ _ _
        refine hP _ _ _ _ ?_; conv => whnf
        exact f75 true (by unfold brk; rw [hb, hc]; rfl)
      | false =>
        refine b1 0 rfl (by omega) (fun _ => ?_) (fun (q : ¬ 0 = 0) => by omega)
        refine hP _ _ _ _ ?_; conv => whnf
        exact f75 false (by unfold brk; rw [hb, hc]; rfl)
  have lp : ∀ (j i : Nat) (x a b : Int32) (N : Mem), x = nI i → i + j = kk + 1 → a = nI (rl_sum 9 (itF (rl_C1 cl) i (set9 15 v0))) → b = nI (if i = 0 then 37 else rl_sum 9 (itF (rl_C1 cl) (i - 1) (set9 15 v0))) → N = mX2S br fr (nA (itF (rl_C1 cl) i (set9 15 v0))) kd pc cd (nI cl.length) prt why →
      P 16 [some (.ref 0), some (.ref 2), some (.int a), some (.int b), some (.int x)] [] N := by
    intro j
    induction j with
    | zero =>
      intro i x a b N hx hi ha hb hN
      subst hN
      have hi : i = kk + 1 := hi
      subst hi
      have hs36 := rl_sum_36 (itF (rl_C1 cl) kk (set9 15 v0))
      rw [hvE]
      rw [if_neg (by omega)] at hb
      have hb : b = nI (rl_sum 9 (itF (rl_C1 cl) kk (set9 15 v0))) := hb
      have ha : a = nI (rl_sum 9 (itF (rl_C1 cl) kk (set9 15 v0))) := by rw [ha]; exact congrArg nI k4
      refine hP _ _ _ _ ?_; conv => whnf
      refine b2 (kk + 1) 36 hx rfl (by omega) (by omega) (fun _ => ?_) (fun _ => ?_)
      · exact fin
      · conv => whnf
        refine b2 _ _ ha hb (by omega) (by omega) (fun _ => ?_) (fun (q : ¬ rl_sum 9 (itF (rl_C1 cl) kk (set9 15 v0)) ≤ rl_sum 9 (itF (rl_C1 cl) kk (set9 15 v0))) => by omega)
        exact fin
    | succ j ih =>
      intro i x a b N hx hi ha hb hN
      subst hN
      subst hx
      have hs36 := rl_sum_36 (itF (rl_C1 cl) i (set9 15 v0))
      have hvi := hokI i
      refine hP _ _ _ _ ?_; conv => whnf
      refine b2 i 36 rfl rfl (by omega) (by omega) (fun (q : 36 < i) => by omega) (fun _ => ?_); conv => whnf
      have hlt : rl_sum 9 (itF (rl_C1 cl) i (set9 15 v0)) < (if i = 0 then 37 else rl_sum 9 (itF (rl_C1 cl) (i - 1) (set9 15 v0))) := by
        by_cases h0 : i = 0
        · rw [if_pos h0]; omega
        · rw [if_neg h0]
          have h1 := k3 (i - 1) (by omega)
          rw [show i - 1 + 1 = i by omega] at h1
          exact h1
      have hb31 : (if i = 0 then 37 else rl_sum 9 (itF (rl_C1 cl) (i - 1) (set9 15 v0))) < 2 ^ 31 := by
        have := rl_sum_36 (itF (rl_C1 cl) (i - 1) (set9 15 v0))
        split <;> omega
      refine b2 _ _ ha hb (by omega) hb31 (fun q => absurd hlt (Nat.not_lt.mpr q)) (fun _ => ?_); conv => whnf
      refine ⟨Nat.le_of_ble_eq_true rfl, rfl, ?_⟩; conv => whnf
      refine Or.inl ⟨_, _, s_applyClues (d := d) hcl hn ok hvi, ?_⟩; conv => whnf
      have o1 := rl_cls_ok cl hvi
      refine ⟨Nat.le_of_ble_eq_true rfl, rfl, ?_⟩; conv => whnf
      refine Or.inl ⟨_, _, Cl_wr [0, 1] (s_applyKinds (d := d + 1) (br := br) (fr := fr) o1) 2 rfl rfl ⟨rfl, rfl, trivial⟩ (mX2S br fr (nA (rl_kdC 2 (rl_kdC 1 (rl_kdC 0 (rl_cls cl (itF (rl_C1 cl) i (set9 15 v0))))))) kd pc cd (nI cl.length) prt why) rfl, ?_⟩; conv => whnf
      have ok1 : ∀ k w, rl_ok w → rl_ok (rl_kdC k w) := fun k w hw => (rl_kj_ok 1 (rl_kd k) 3 (rl_cs_ok 1 (rl_kd k) 3 hw).1).1
      refine ⟨Nat.le_of_ble_eq_true rfl, rfl, ?_⟩; conv => whnf
      refine Or.inl ⟨_, _, Cl_wr [0, 1] (s_applyPlayers (d := d + 1) (br := br) (fr := fr) (ok1 2 _ (ok1 1 _ (ok1 0 _ o1)))) 2 rfl rfl ⟨rfl, rfl, trivial⟩ (mX2S br fr (nA (itF (rl_C1 cl) (i + 1) (set9 15 v0))) kd pc cd (nI cl.length) prt why) rfl, ?_⟩; conv => whnf
      refine ⟨Nat.le_of_ble_eq_true rfl, rfl, ?_⟩; conv => whnf
      refine Or.inl ⟨_, _, Cl_rd [0, 1] (s_placesLeft2 (d := d + 2) (br := br) (fr := fr) (hokI (i + 1))) 2 rfl rfl ⟨rfl, rfl, trivial⟩, ?_⟩; conv => whnf
      exact ih (i + 1) _ _ _ _ (nI_1 i) (by omega) rfl (by rw [ha, if_neg (by omega)]; rfl) rfl
  refine lp (kk + 1) 0 _ _ _ _ rfl (by omega) ?_ ?_ rfl
  · show _ = nI (rl_sum 9 (set9 15 v0))
    rw [hsum15]; rfl
  · rfl
end X2D
