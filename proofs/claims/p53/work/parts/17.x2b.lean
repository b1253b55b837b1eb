/-! the sheet of rules: clues, turns, the end -/
def mX2S (br fr : Int32) (pl : IA) (kd pc cd : IA) (cnt prt why : Int32) : Mem := [eO 2 [.int br, .int fr, .ref 1], eI 9 pl, eO 3 [.ref 6, .ref 3, .ref 4, .ref 5, .int cnt, .int prt, .int why], eI 20 kd, eI 20 pc, eI 20 cd]
theorem rl_cl_ok (x : rl_C) {v : NA} (hv : rl_ok v) : rl_ok (rl_cl x v) ∧ rl_le (rl_cl x v) v := by
  unfold rl_cl
  split
  · refine ⟨fun c hc => ?_, fun c hc => ?_⟩
    · unfold rl_keep; split
      · exact rl_and_lt (hv c hc)
      · exact hv c hc
    · unfold rl_keep; split
      · exact rl_sub_and _ _
      · exact rl_sub_refl _
  · split
    · refine ⟨fun c hc => ?_, fun c hc => ?_⟩
      · unfold rl_lose; split
        · exact rl_and_lt (hv c hc)
        · exact hv c hc
      · unfold rl_lose; split
        · exact rl_sub_and _ _
        · exact rl_sub_refl _
    · split
      · unfold rl_kj; split
        · exact rl_fix_good hv _ _
        · exact ⟨hv, rl_le_refl v⟩
      · unfold rl_cs; split
        · exact rl_bar_good hv _ _
        · exact ⟨hv, rl_le_refl v⟩
theorem rl_kj_ok (n cards place : Nat) {v : NA} (hv : rl_ok v) : rl_ok (rl_kj n cards place v) ∧ rl_le (rl_kj n cards place v) v := by
  unfold rl_kj; split
  · exact rl_fix_good hv _ _
  · exact ⟨hv, rl_le_refl v⟩
theorem rl_cs_ok (n cards place : Nat) {v : NA} (hv : rl_ok v) : rl_ok (rl_cs n cards place v) ∧ rl_le (rl_cs n cards place v) v := by
  unfold rl_cs; split
  · exact rl_bar_good hv _ _
  · exact ⟨hv, rl_le_refl v⟩
theorem rl_cp_ok (cards place : Nat) {v : NA} (hv : rl_ok v) : rl_ok (rl_cp cards place v) ∧ rl_le (rl_cp cards place v) v := by
  unfold rl_cp; split
  · exact rl_bar_good hv _ _
  · exact ⟨hv, rl_le_refl v⟩
theorem rl_cls_ok : ∀ (cl : List rl_C) {v : NA}, rl_ok v → rl_ok (rl_cls cl v) := by
  intro cl
  induction cl with
  | nil => intro v hv; exact hv
  | cons a r ih => intro v hv; exact ih (rl_cl_ok a hv).1
theorem kd_lt {k : Nat} (h : k < 3) : rl_kd k < 512 := by
  have h3 : k = 0 ∨ k = 1 ∨ k = 2 := by omega
  rcases h3 with rfl | rfl | rfl <;> decide
section X2B
variable {d : Nat} {br fr : Int32} {v : NA} {kd pc cd : IA} {cnt prt why : Int32}
theorem s_applyClue {x : rl_C} (ok : x.1 < 6 ∧ x.2.1 < 4 ∧ x.2.2 < 512) (hv : rl_ok v) : Cl (d + 3) kX2_applyClue [.ref 0, .int (nI x.1), .int (nI x.2.1), .int (nI x.2.2)] (mX2 br fr (nA v)) (.inl none) (mX2 br fr (nA (rl_cl x v))) := by
  have ez : (nI x.1).toInt = (x.1 : Int) := nI_toInt (by omega)
  refine Cl_go e_X2_applyClue (Nat.le_of_ble_eq_true rfl) rfl ?_; intro P hP; refine hP _ _ _ _ ?_; conv => whnf
  refine ⟨fun q => ?_, fun q => ?_, fun q => ?_, fun q => ?_, fun q => ?_, fun q => ?_, fun q => ?_, trivial⟩
  · have q : (x.1 : Int) < 0 ∨ (5 : Int) < x.1 := by rw [← ez]; exact q
    omega
  · have q : (x.1 : Int) = 0 := by rw [← ez]; exact q
    have e : rl_cl x v = rl_keep x.2.2 x.2.1 v := if_pos (by omega)
    rw [e] at hP
    refine hP _ _ _ _ ?_; conv => whnf
    refine ⟨Nat.le_of_ble_eq_true rfl, rfl, ?_⟩; conv => whnf
    refine Or.inl ⟨_, _, s_keepOnly (d := d + 1) ok.2.2 ok.2.1 hv, ?_⟩; conv => whnf
    refine hP _ _ _ _ ?_; conv => whnf
    exact ⟨rfl, rfl, rfl, rfl⟩
  · have q : (x.1 : Int) = 0 + 1 := by rw [← ez]; exact q
    have e : rl_cl x v = rl_lose x.2.2 x.2.1 v := (if_neg (by omega)).trans (if_pos (by omega))
    rw [e] at hP
    refine hP _ _ _ _ ?_; conv => whnf
    refine ⟨Nat.le_of_ble_eq_true rfl, rfl, ?_⟩; conv => whnf
    refine Or.inl ⟨_, _, s_crossOff (d := d + 1) ok.2.2 ok.2.1 hv, ?_⟩; conv => whnf
    refine hP _ _ _ _ ?_; conv => whnf
    exact ⟨rfl, rfl, rfl, rfl⟩
  · have q : (x.1 : Int) = 0 + 1 + 1 := by rw [← ez]; exact q
    have e : rl_cl x v = rl_kj 1 x.2.2 x.2.1 v := (if_neg (by omega)).trans ((if_neg (by omega)).trans (if_pos (by omega)))
    rw [e] at hP
    refine hP _ _ _ _ ?_; conv => whnf
    refine ⟨Nat.le_of_ble_eq_true rfl, rfl, ?_⟩; conv => whnf
    refine Or.inl ⟨_, _, s_keepIfJust (n := 1) (by decide) ok.2.2 ok.2.1 hv, ?_⟩; conv => whnf
    refine hP _ _ _ _ ?_; conv => whnf
    exact ⟨rfl, rfl, rfl, rfl⟩
  · have q : (x.1 : Int) = 0 + 1 + 1 + 1 := by rw [← ez]; exact q
    have e : rl_cl x v = rl_lose x.2.2 x.2.1 v := (if_neg (by omega)).trans (if_pos (by omega))
    rw [e] at hP
    refine hP _ _ _ _ ?_; conv => whnf
    refine ⟨Nat.le_of_ble_eq_true rfl, rfl, ?_⟩; conv => whnf
    refine Or.inl ⟨_, _, s_crossOff (d := d + 1) ok.2.2 ok.2.1 hv, ?_⟩; conv => whnf
    refine hP _ _ _ _ ?_; conv => whnf
    exact ⟨rfl, rfl, rfl, rfl⟩
  · have q : (x.1 : Int) = 0 + 1 + 1 + 1 + 1 := by rw [← ez]; exact q
    have e : rl_cl x v = rl_cs 2 x.2.2 x.2.1 v := (if_neg (by omega)).trans ((if_neg (by omega)).trans (if_neg (by omega)))
    rw [e] at hP
    refine hP _ _ _ _ ?_; conv => whnf
    refine ⟨Nat.le_of_ble_eq_true rfl, rfl, ?_⟩; conv => whnf
    refine Or.inl ⟨_, _, s_crossIfSure (n := 2) (by decide) ok.2.2 ok.2.1 hv, ?_⟩; conv => whnf
    refine hP _ _ _ _ ?_; conv => whnf
    exact ⟨rfl, rfl, rfl, rfl⟩
  · have q : (x.1 : Int) = 0 + 1 + 1 + 1 + 1 + 1 := by rw [← ez]; exact q
    have e : rl_cl x v = rl_keep x.2.2 x.2.1 v := if_pos (by omega)
    rw [e] at hP
    refine hP _ _ _ _ ?_; conv => whnf
    refine ⟨Nat.le_of_ble_eq_true rfl, rfl, ?_⟩; conv => whnf
    refine Or.inl ⟨_, _, s_keepOnly (d := d + 1) ok.2.2 ok.2.1 hv, ?_⟩; conv => whnf
    refine hP _ _ _ _ ?_; conv => whnf
    exact ⟨rfl, rfl, rfl, rfl⟩
theorem s_applyClues {cl : List rl_C} (hcl : clM cl kd pc cd) (hn : cl.length ≤ 20) (ok : okC cl) (hv : rl_ok v) : Cl (d + 4) kX2_applyClues [.ref 0, .ref 2] (mX2S br fr (nA v) kd pc cd (nI cl.length) prt why) (.inl none) (mX2S br fr (nA (rl_cls cl v)) kd pc cd (nI cl.length) prt why) := by
  refine Cl_go e_X2_applyClues (Nat.le_of_ble_eq_true rfl) rfl ?_; intro P hP; refine hP _ _ _ _ ?_; conv => whnf
  have lp : ∀ (j i : Nat) (x : Int32) (N : Mem), x = nI i → i + j = cl.length → N = mX2S br fr (nA (rl_cls (cl.take i) v)) kd pc cd (nI cl.length) prt why → P 2 [some (.ref 0), some (.ref 2), some (.int x)] [] N := by
    intro j
    induction j with
    | zero =>
      intro i x N hx hi hN
      subst hN
      have hi : i = cl.length := hi
      refine hP _ _ _ _ ?_; conv => whnf
      refine b2 i cl.length hx rfl (by omega) (by omega) (fun _ => ?_) (fun (q : ¬ cl.length ≤ i) => by omega)
      refine hP _ _ _ _ ?_; conv => whnf
      refine ⟨rfl, rfl, rfl, ?_⟩
      rw [List.take_of_length_le (by omega)]
    | succ j ih =>
      intro i x N hx hi hN
      subst hN
      subst hx
      have hg : cl[i]? = some cl[i] := List.getElem?_eq_getElem (by omega)
      have hm := ok _ (List.mem_of_getElem? hg)
      obtain ⟨m1, m2, m3⟩ := hcl i _ hg
      have e0 : (nI i).toNatClampNeg = i := nI_clamp (by omega)
      refine hP _ _ _ _ ?_; conv => whnf
      refine b2 i cl.length rfl rfl (by omega) (by omega) (fun (q : cl.length ≤ i) => by omega) (fun _ => ?_); conv => whnf
      refine b2 i 20 rfl rfl (by omega) (by omega) (fun (q : 20 ≤ i) => by omega) (fun _ => ?_); conv => whnf
      refine ⟨vi rfl (show i < 20 by omega) (by decide), ?_⟩; conv => whnf
      refine ⟨vi rfl (show i < 20 by omega) (by decide), ?_⟩; conv => whnf
      refine ⟨vi rfl (show i < 20 by omega) (by decide), ?_⟩; conv => whnf
      refine ⟨Nat.le_of_ble_eq_true rfl, rfl, ?_⟩; conv => whnf
      have hk : Cl (d + 3) kX2_applyClue [.ref 0, .int (kd (nI i).toNatClampNeg), .int (pc (nI i).toNatClampNeg), .int (cd (nI i).toNatClampNeg)] (mX2S br fr (nA (rl_cls (cl.take i) v)) kd pc cd (nI cl.length) prt why) (.inl none) (mX2S br fr (nA (rl_cl cl[i] (rl_cls (cl.take i) v))) kd pc cd (nI cl.length) prt why) := by
        rw [e0, m1, m2, m3]
        exact Cl_wr [0, 1] (s_applyClue (br := br) (fr := fr) hm (rl_cls_ok _ hv)) 2 rfl rfl ⟨rfl, rfl, trivial⟩ _ rfl
      refine Or.inl ⟨_, _, hk, ?_⟩; conv => whnf
      refine ih (i + 1) _ _ (nI_1 i) (by omega) ?_
      rw [List.take_add_one, hg]
      unfold rl_cls
      rw [List.foldl_append]
      rfl
  exact lp cl.length 0 _ _ rfl (by omega) rfl
theorem s_applyKinds (hv : rl_ok v) : Cl (d + 3) kX2_applyKinds [.ref 0] (mX2 br fr (nA v)) (.inl none) (mX2 br fr (nA (rl_kdC 2 (rl_kdC 1 (rl_kdC 0 v))))) := by
  refine Cl_go e_X2_applyKinds (Nat.le_of_ble_eq_true rfl) rfl ?_; intro P hP; refine hP _ _ _ _ ?_; conv => whnf
  have step : ∀ (k : Nat) (x : Int32) (w : NA), k < 3 → rl_ok w → x = nI k → (∀ y, y = nI (k + 1) → P 2 [some (.ref 0), some (.int y)] [] (mX2 br fr (nA (rl_kdC k w)))) → P 2 [some (.ref 0), some (.int x)] [] (mX2 br fr (nA w)) := by
    intro k x w hk hw hx g
    subst hx
    have hw1 := (rl_cs_ok 1 (rl_kd k) 3 hw).1
    refine hP _ _ _ _ ?_; conv => whnf
    refine b2 k 3 rfl rfl (by omega) (by omega) (fun (q : 3 ≤ k) => by omega) (fun _ => ?_); conv => whnf
    refine ⟨Nat.le_of_ble_eq_true rfl, rfl, ?_⟩; conv => whnf
    refine Or.inl ⟨_, _, Cl_s (s_cardsOfKind hk), ?_⟩; conv => whnf
    refine ⟨Nat.le_of_ble_eq_true rfl, rfl, ?_⟩; conv => whnf
    refine Or.inl ⟨_, _, s_crossIfSure (n := 1) (cards := rl_kd k) (place := 3) (by decide) (kd_lt hk) (by decide) hw, ?_⟩; conv => whnf
    refine ⟨Nat.le_of_ble_eq_true rfl, rfl, ?_⟩; conv => whnf
    refine Or.inl ⟨_, _, Cl_s (s_cardsOfKind hk), ?_⟩; conv => whnf
    refine ⟨Nat.le_of_ble_eq_true rfl, rfl, ?_⟩; conv => whnf
    refine Or.inl ⟨_, _, s_keepIfJust (n := 1) (cards := rl_kd k) (place := 3) (by decide) (kd_lt hk) (by decide) hw1, ?_⟩; conv => whnf
    exact g _ (nI_1 k)
  have ok1 : ∀ k w, rl_ok w → rl_ok (rl_kdC k w) := fun k w hw => (rl_kj_ok 1 (rl_kd k) 3 (rl_cs_ok 1 (rl_kd k) 3 hw).1).1
  refine step 0 _ _ (by decide) hv rfl (fun y hy => ?_)
  refine step 1 _ _ (by decide) (ok1 0 _ hv) hy (fun y hy => ?_)
  refine step 2 _ _ (by decide) (ok1 1 _ (ok1 0 _ hv)) hy (fun y hy => ?_)
  refine hP _ _ _ _ ?_; conv => whnf
  refine b2 3 3 hy rfl (by omega) (by omega) (fun _ => ?_) (fun (q : ¬ 3 ≤ 3) => by omega)
  refine hP _ _ _ _ ?_; conv => whnf
  exact ⟨rfl, rfl, rfl, rfl⟩
theorem s_applyPlayers (hv : rl_ok v) : Cl (d + 3) kX2_applyPlayers [.ref 0] (mX2 br fr (nA v)) (.inl none) (mX2 br fr (nA (rl_pl 2 (rl_pl 1 (rl_pl 0 v))))) := by
  refine Cl_go e_X2_applyPlayers (Nat.le_of_ble_eq_true rfl) rfl ?_; intro P hP; refine hP _ _ _ _ ?_; conv => whnf
  have step : ∀ (k : Nat) (x : Int32) (w : NA), k < 3 → rl_ok w → x = nI k → (∀ y, y = nI (k + 1) → P 2 [some (.ref 0), some (.int y)] [] (mX2 br fr (nA (rl_pl k w)))) → P 2 [some (.ref 0), some (.int x)] [] (mX2 br fr (nA w)) := by
    intro k x w hk hw hx g
    subst hx
    have hw1 := (rl_cs_ok 2 511 k hw).1
    refine hP _ _ _ _ ?_; conv => whnf
    refine b2 k 3 rfl rfl (by omega) (by omega) (fun (q : 3 ≤ k) => by omega) (fun _ => ?_); conv => whnf
    refine ⟨Nat.le_of_ble_eq_true rfl, rfl, ?_⟩; conv => whnf
    refine Or.inl ⟨_, _, s_crossIfSure (n := 2) (cards := 511) (place := k) (by decide) (by decide) (by omega) hw, ?_⟩; conv => whnf
    refine ⟨Nat.le_of_ble_eq_true rfl, rfl, ?_⟩; conv => whnf
    refine Or.inl ⟨_, _, s_keepIfJust (n := 2) (cards := 511) (place := k) (by decide) (by decide) (by omega) hw1, ?_⟩; conv => whnf
    exact g _ (nI_1 k)
  have ok1 : ∀ k w, rl_ok w → rl_ok (rl_pl k w) := fun k w hw => (rl_kj_ok 2 511 k (rl_cs_ok 2 511 k hw).1).1
  refine step 0 _ _ (by decide) hv rfl (fun y hy => ?_)
  refine step 1 _ _ (by decide) (ok1 0 _ hv) hy (fun y hy => ?_)
  refine step 2 _ _ (by decide) (ok1 1 _ (ok1 0 _ hv)) hy (fun y hy => ?_)
  refine hP _ _ _ _ ?_; conv => whnf
  refine b2 3 3 hy rfl (by omega) (by omega) (fun _ => ?_) (fun (q : ¬ 3 ≤ 3) => by omega)
  refine hP _ _ _ _ ?_; conv => whnf
  exact ⟨rfl, rfl, rfl, rfl⟩
end X2B
