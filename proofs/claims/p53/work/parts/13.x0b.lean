/-! the counter of deals: all deals dealt, card by card -/
theorem lt2_all : (List.range 512).all (fun x => Nat.blt (pcN x) 2 == dq_lt2 x) = true := by decide +kernel
theorem lt2_iff {x : Nat} (h : x < 512) : (pcN x < 2) ↔ dq_lt2 x = true := by
  have h1 := eq_of_beq (List.all_eq_true.mp lt2_all x (List.mem_range.mpr h))
  rw [← h1]
  exact ⟨fun z => Nat.ble_eq_true_of_le z, fun z => Nat.le_of_ble_eq_true z⟩
theorem pcN_lt (x : Nat) : pcN x < 10 := Nat.lt_succ_of_le (cntN_le _ 9)
def ors (c h : Nat) : Bool := Nat.beq (h ||| 2 ^ c) (h + 2 ^ c) && Nat.beq ((h + 2 ^ c) &&& (2 ^ c ^^^ 4294967295)) h
theorem ors_all : (List.range 9).all (fun c => (List.range (2 ^ c)).all (fun h => ors c h)) = true := by decide +kernel
theorem ors_ok {c h : Nat} (hc : c < 9) (hh : h < 2 ^ c) : h ||| 2 ^ c = h + 2 ^ c ∧ (h + 2 ^ c) &&& (2 ^ c ^^^ 4294967295) = h := by
  have h1 := List.all_eq_true.mp (List.all_eq_true.mp ors_all c (List.mem_range.mpr hc)) h (List.mem_range.mpr hh)
  unfold ors at h1
  rw [Bool.and_eq_true] at h1
  exact ⟨Nat.eq_of_beq_eq_true h1.1, Nat.eq_of_beq_eq_true h1.2⟩
theorem hn_put {m p v : Nat} (hp : p < 4) (hv : dq_hn m p + v < 512) : dq_hn (dq_put m p v) p = dq_hn m p + v := by
  unfold dq_hn dq_put at *
  have h4 : p = 0 ∨ p = 1 ∨ p = 2 ∨ p = 3 := by omega
  rcases h4 with rfl | rfl | rfl | rfl <;> omega
theorem hn_put_ne {m p q v : Nat} (hp : p < 4) (hq : q < 4) (hne : ¬ q = p) (hv : dq_hn m p + v < 512) : dq_hn (dq_put m p v) q = dq_hn m q := by
  unfold dq_hn dq_put at *
  have h4 : p = 0 ∨ p = 1 ∨ p = 2 ∨ p = 3 := by omega
  have h5 : q = 0 ∨ q = 1 ∨ q = 2 ∨ q = 3 := by omega
  rcases h4 with rfl | rfl | rfl | rfl <;> rcases h5 with rfl | rfl | rfl | rfl <;> omega
theorem b01 {b : Bool} : narrow .boolean (.int (bI b)) = .int (bI b) := by cases b <;> rfl
section ROOM
variable {d : Nat} {tot fr : Int32} {ca ie wh hb so : IA}
theorem s_hasRoom {c p m : Nat} (hc : c < 9) (hp : p < 4) (hs : ∀ p, p < 4 → so p = nI (dq_hn m p)) : Cl (d + 2) kX0_hasRoom [.ref 0, .int (nI c), .int (nI p)] (mX0 tot fr ca ie wh hb so) (.inl (some (.int (bI (dq_room m c p))))) (mX0 tot fr ca ie wh hb so) := by
  have e1 : nI c / cst 3 = nI (c / 3) := pk_div (by omega) (by decide) (by decide)
  have e2 : nI c - nI c / cst 3 * cst 3 = nI (c % 3) := pk_rem (by omega) (by decide) (by decide)
  have e3 : so (cst 3).toNatClampNeg &&& nI (dq_kind (c / 3)) = nI (dq_hn m 3 &&& dq_kind (c / 3)) := by rw [show (cst 3).toNatClampNeg = 3 from rfl, hs 3 (by decide), nI_and]
  have hl3 : dq_hn m 3 &&& dq_kind (c / 3) < 512 := Nat.lt_of_le_of_lt Nat.and_le_left (hn_lt m 3)
  have hlp := hn_lt m p
  have hpp := pcN_lt (dq_hn m p)
  refine Cl_go e_X0_hasRoom (Nat.le_of_ble_eq_true rfl) rfl ?_; intro P hP; refine hP _ _ _ _ ?_; (conv => whnf)
  refine ⟨vi (n := 3) rfl (by decide) (by decide), ?_⟩; (conv => whnf)
  refine ⟨by decide, ?_⟩; (conv => whnf)
  refine ⟨Nat.le_of_ble_eq_true rfl, rfl, ?_⟩; (conv => whnf)
  have hk : Cl (d + 1) kX5_cardsOfKind [.int (nI c / cst 3)] (mX0 tot fr ca ie wh hb so) (.inl (some (.int (nI (dq_kind (c / 3)))))) (mX0 tot fr ca ie wh hb so) := by
    rw [e1]; exact Cl_s (s_cardsOfKind (by omega))
  refine Or.inl ⟨_, _, hk, ?_⟩; (conv => whnf)
  have h78 : dq_room m c p = false → P 78 [none, none, none, none, none] [] (mX0 tot fr ca ie wh hb so) := by
    intro h
    refine hP _ _ _ _ ?_; (conv => whnf)
    refine hP _ _ _ _ ?_; (conv => whnf)
    exact ⟨rfl, ⟨.boolean, rfl, rfl⟩, rI (by rw [h]; rfl), rfl⟩
  have h52 : p < 3 → dq_room m c p = dq_lt2 (dq_hn m p) → P 52 [some (.ref 0), none, some (.int (nI p)), none, none] [] (mX0 tot fr ca ie wh hb so) := by
    intro h3 h
    have e4 : so (nI p).toNatClampNeg = nI (dq_hn m p) := by rw [nI_clamp (by omega), hs p hp]
    refine hP _ _ _ _ ?_; (conv => whnf)
    refine b1 p rfl (by omega) (fun (q : p < 0) => by omega) (fun _ => ?_); (conv => whnf)
    refine b2 p 3 rfl rfl (by omega) (by omega) (fun (q : 3 ≤ p) => by omega) (fun _ => ?_); (conv => whnf)
    refine ⟨vi rfl hp (by decide), ?_⟩; (conv => whnf)
    refine ⟨Nat.le_of_ble_eq_true rfl, rfl, ?_⟩; (conv => whnf)
    have hb : Cl (d + 1) kJ6_bitCount_0f7a4 [.int (so (nI p).toNatClampNeg)] (mX0 tot fr ca ie wh hb so) (.inl (some (.int (nI (pcN (dq_hn m p)))))) (mX0 tot fr ca ie wh hb so) := by
      rw [e4]; exact Cl_s (s_bitCount hlp)
    refine Or.inl ⟨_, _, hb, ?_⟩; (conv => whnf)
    refine b2 (pcN (dq_hn m p)) 2 rfl rfl (by omega) (by omega) (fun (q : 2 ≤ pcN (dq_hn m p)) => ?_) (fun (q : ¬ 2 ≤ pcN (dq_hn m p)) => ?_)
    · refine h78 ?_
      rw [h]
      cases hl : dq_lt2 (dq_hn m p) with
      | false => rfl
      | true => have := (lt2_iff hlp).mpr hl; omega
    · (conv => whnf)
      refine hP _ _ _ _ ?_; (conv => whnf)
      have hl := (lt2_iff hlp).mp (by omega)
      exact ⟨rfl, ⟨.boolean, rfl, rfl⟩, rI (by rw [h, hl]; rfl), rfl⟩
  have h21 : ∀ (lk : Bool), Nat.beq (dq_hn m 3 &&& dq_kind (c / 3)) 0 = lk → P 21 [some (.ref 0), some (.int (nI c)), some (.int (nI p)), none, none] [.int (bI lk)] (mX0 tot fr ca ie wh hb so) := by
    intro lk hlk
    refine hP _ _ _ _ ?_; (conv => whnf)
    refine b2 p 3 rfl rfl (by omega) (by omega) (fun (q : ¬ p = 3) => ?_) (fun (q : ¬ ¬ p = 3) => ?_)
    · refine hP _ _ _ _ ?_; (conv => whnf)
      refine ⟨by decide, ?_⟩; (conv => whnf)
      refine b2 (c % 3) 2 e2 rfl (by omega) (by omega) (fun (q2 : ¬ c % 3 = 2) => ?_) (fun (q2 : ¬ ¬ c % 3 = 2) => ?_)
      · refine hP _ _ _ _ ?_; (conv => whnf)
        refine hP _ _ _ _ ?_; (conv => whnf)
        refine b1 0 rfl (by omega) (fun _ => ?_) (fun (q : ¬ 0 = 0) => by omega)
        refine h52 (by omega) ?_
        unfold dq_room
        rw [nbf q, nbf q2]; rfl
      · (conv => whnf)
        refine hP _ _ _ _ ?_; (conv => whnf)
        refine b1 1 rfl (by omega) (fun (q : 1 = 0) => by omega) (fun _ => ?_); (conv => whnf)
        have hr : dq_room m c p = (!lk && dq_lt2 (dq_hn m p)) := by
          unfold dq_room
          rw [nbf q, nbt (Decidable.of_not_not q2), hlk]; rfl
        cases lk with
        | true =>
          refine b1 1 rfl (by omega) (fun _ => ?_) (fun (q : ¬ ¬ 1 = 0) => by omega)
          exact h78 (by rw [hr]; rfl)
        | false =>
          refine b1 0 rfl (by omega) (fun (q : ¬ 0 = 0) => by omega) (fun _ => ?_)
          show P 52 _ _ _
          exact h52 (by omega) (by rw [hr]; rfl)
    · (conv => whnf)
      have hp3 : p = 3 := Decidable.of_not_not q
      refine ⟨rfl, ⟨.boolean, rfl, b01⟩, rI ?_, rfl⟩
      unfold dq_room
      rw [nbt hp3, hlk]; rfl
  refine b1 _ e3 (by omega) (fun (q : ¬ dq_hn m 3 &&& dq_kind (c / 3) = 0) => ?_) (fun (q : ¬ ¬ dq_hn m 3 &&& dq_kind (c / 3) = 0) => ?_)
  · refine hP _ _ _ _ ?_; (conv => whnf)
    exact h21 false (nbf q)
  · (conv => whnf)
    exact h21 true (nbt (Decidable.of_not_not q))
end ROOM
def sgG (n c t m p : Nat) : List dq_L := bif dq_room m c p then dq_gen n (c + 1) (dq_then t c p) (dq_put m p (2 ^ c)) else []
theorem dq_gen_s (n c t m : Nat) : dq_gen (n + 1) c t m = sgG n c t m 0 ++ (sgG n c t m 1 ++ (sgG n c t m 2 ++ sgG n c t m 3)) := rfl
def fdC (cl : List rl_C) (l : List dq_L) (ct : CT) : CT := l.foldl (fun c x => ct_jd cl x c) ct
theorem fdC_app (cl : List rl_C) (l r : List dq_L) (ct : CT) : fdC cl (l ++ r) ct = fdC cl r (fdC cl l ct) := List.foldl_append
theorem low_put {c m p : Nat} (hc : c < 9) (hp : p < 4) (hlow : ∀ p, p < 4 → dq_hn m p < 2 ^ c) : ∀ p', p' < 4 → dq_hn (dq_put m p (2 ^ c)) p' < 2 ^ (c + 1) := by
  have h2 : 2 ^ c ≤ 256 := by
    have : 2 ^ c ≤ 2 ^ 8 := Nat.pow_le_pow_right (by decide) (by omega)
    omega
  have hv : dq_hn m p + 2 ^ c < 512 := by have := hlow p hp; omega
  intro p' hp'
  have h3 : 2 ^ (c + 1) = 2 ^ c * 2 := Nat.pow_succ 2 c
  by_cases hpp : p' = p
  · subst hpp
    rw [hn_put hp hv]
    have := hlow p' hp
    omega
  · rw [hn_put_ne hp hp' hpp hv]
    have := hlow p' hp'
    omega
section DEAL
variable {fr : Int32} {kd pl cd : IA} {prt why : Int32}
theorem s_dealFrom {cl : List rl_C} (hcl : clM cl kd pl cd) (hn : cl.length ≤ 20) (ok : okC cl) (d : Nat) : ∀ (n c t m : Nat) (ct : CT) (so : IA), c + n = 9 → (∀ x ∈ dq_gen n c t m, x.1 < 27) → (∀ p, p < 4 → so p = nI (dq_hn m p)) → (∀ p, p < 4 → dq_hn m p < 2 ^ c) →
    Cl (d + n + 3) kX0_dealFrom [.int (nI c), .int (nI t), .ref 0, .ref 6] (mCT ct fr so kd pl cd (nI cl.length) prt why) (.inl none) (mCT (fdC cl (dq_gen n c t m) ct) fr so kd pl cd (nI cl.length) prt why) := by
  intro n
  induction n with
  | zero =>
    intro c t m ct so hc ht hs hlow
    have hc : c = 9 := hc
    subst hc
    refine Cl_go e_X0_dealFrom (Nat.le_of_ble_eq_true rfl) rfl ?_; intro P hP; refine hP _ _ _ _ ?_; (conv => whnf)
    refine b1 9 rfl (by omega) (fun (q : 9 < 0) => by omega) (fun _ => ?_); (conv => whnf)
    refine b2 9 9 rfl rfl (by omega) (by omega) (fun (q : 9 < 9) => by omega) (fun _ => ?_); (conv => whnf)
    refine hP _ _ _ _ ?_; (conv => whnf)
    refine ⟨Nat.le_of_ble_eq_true rfl, rfl, ?_⟩; (conv => whnf)
    refine Or.inl ⟨_, _, s_judge hcl hn ok (ht (t, m) List.mem_cons_self) hs, ?_⟩; (conv => whnf)
    exact ⟨rfl, rfl, rfl, rfl⟩
  | succ n ih =>
    intro c t m ct so hc ht hs hlow
    refine Cl_go e_X0_dealFrom (Nat.le_of_ble_eq_true rfl) rfl ?_; intro P hP; refine hP _ _ _ _ ?_; (conv => whnf)
    refine b1 c rfl (by omega) (fun (q : c < 0) => by omega) (fun _ => ?_); (conv => whnf)
    refine b2 c 9 rfl rfl (by omega) (by omega) (fun _ => ?_) (fun (q : ¬ c < 9) => by omega)
    refine hP _ _ _ _ ?_; (conv => whnf)
    have hc9 : c < 9 := by omega
    have step : ∀ (p : Nat), p < 4 → ∀ (ct1 : CT) (x : Int32) (N : Mem), (∀ y ∈ sgG n c t m p, y.1 < 27) → x = nI p → N = mCT ct1 fr so kd pl cd (nI cl.length) prt why →
        (∀ x' N', x' = nI (p + 1) → N' = mCT (fdC cl (sgG n c t m p) ct1) fr so kd pl cd (nI cl.length) prt why → P 20 [some (.int (nI c)), some (.int (nI t)), some (.ref 0), some (.ref 6), some (.int x'), none] [] N') →
        P 20 [some (.int (nI c)), some (.int (nI t)), some (.ref 0), some (.ref 6), some (.int x), none] [] N := by
      intro p hp ct1 x N ht1 hx hN k
      subst hN
      subst hx
      have e0 : (nI p).toNatClampNeg = p := nI_clamp (by omega)
      refine hP _ _ _ _ ?_; (conv => whnf)
      refine b2 p 4 rfl rfl (by omega) (by omega) (fun (q : 4 ≤ p) => by omega) (fun _ => ?_); (conv => whnf)
      refine ⟨Nat.le_of_ble_eq_true rfl, rfl, ?_⟩; (conv => whnf)
      refine Or.inl ⟨_, _, Cl_rd [0, 1, 2, 3, 4, 5] (s_hasRoom (so := so) (tot := nI ct1.1) (fr := fr) (ca := nA ct1.2.1) (ie := nA ct1.2.2.1) (wh := nA ct1.2.2.2.1) (hb := nA ct1.2.2.2.2) hc9 hp hs) 6 rfl rfl ⟨rfl, rfl, rfl, rfl, rfl, rfl, trivial⟩, ?_⟩; (conv => whnf)
      cases hr : dq_room m c p with
      | false =>
        refine b1 0 rfl (by omega) (fun _ => ?_) (fun (q : ¬ 0 = 0) => by omega)
        refine hP _ _ _ _ ?_; (conv => whnf)
        have e1 : sgG n c t m p = [] := by unfold sgG; rw [hr]; rfl
        rw [e1] at k
        exact k _ _ (nI_1 p) rfl
      | true =>
        have e1 : sgG n c t m p = dq_gen n (c + 1) (dq_then t c p) (dq_put m p (2 ^ c)) := by unfold sgG; rw [hr]; rfl
        rw [e1] at k
        rw [e1] at ht1
        have hors := ors_ok hc9 (hlow p hp)
        have h2 : 2 ^ c ≤ 256 := by
          have : 2 ^ c ≤ 2 ^ 8 := Nat.pow_le_pow_right (by decide) (by omega)
          omega
        have hv : dq_hn m p + 2 ^ c < 512 := by have := hlow p hp; omega
        refine b1 1 rfl (by omega) (fun (q : 1 = 0) => by omega) (fun _ => ?_); (conv => whnf)
        refine ⟨vi rfl hp (by decide), ?_⟩; (conv => whnf)
        refine ⟨vi rfl hp (by decide), ?_⟩; (conv => whnf)
        have es1 : upd so (nI p).toNatClampNeg (so (nI p).toNatClampNeg ||| nI 1 <<< (nI c &&& 31)) = upd so p (nI (dq_hn m p + 2 ^ c)) := by
          rw [e0, hs p hp, sh_1 (show c < 31 by omega), nI_or, hors.1]
        have h66 : ∀ (tv : Int32) (N : Mem), tv = nI (dq_then t c p) → N = mCT ct1 fr (upd so p (nI (dq_hn m p + 2 ^ c))) kd pl cd (nI cl.length) prt why →
            P 66 [some (.int (nI c)), some (.int (nI t)), some (.ref 0), some (.ref 6), some (.int (nI p)), none] [.int tv] N := by
          intro tv N htv hN
          subst hN
          subst htv
          refine hP _ _ _ _ ?_; (conv => whnf)
          refine ⟨Nat.le_of_ble_eq_true rfl, rfl, ?_⟩; (conv => whnf)
          have hcall := ih (c + 1) (dq_then t c p) (dq_put m p (2 ^ c)) ct1 (upd so p (nI (dq_hn m p + 2 ^ c))) (by omega) ht1
            (fun p' hp' => by
              by_cases hpp : p' = p
              · subst hpp; rw [upd_eq, hn_put hp hv]
              · rw [upd_ne _ _ hpp, hn_put_ne hp hp' hpp hv, hs p' hp'])
            (low_put hc9 hp hlow)
          rw [← nI_1 c] at hcall
          refine Or.inl ⟨_, _, hcall, ?_⟩; (conv => whnf)
          refine ⟨vi rfl hp (by decide), ?_⟩; (conv => whnf)
          refine ⟨vi rfl hp (by decide), ?_⟩; (conv => whnf)
          refine hP _ _ _ _ ?_; (conv => whnf)
          refine k _ _ (nI_1 p) ?_
          have es2 : upd (upd so p (nI (dq_hn m p + 2 ^ c))) (nI p).toNatClampNeg (upd so p (nI (dq_hn m p + 2 ^ c)) (nI p).toNatClampNeg &&& (nI 1 <<< (nI c &&& 31) ^^^ cst (-1))) = so := by
            rw [e0, upd_eq, sh_1 (show c < 31 by omega), show cst (-1) = nI 4294967295 from rfl, nI_xor, nI_and, hors.2]
            funext j
            by_cases hj : j = p
            · rw [hj, upd_eq, hs p hp]
            · rw [upd_ne _ _ hj, upd_ne _ _ hj]
          conv => rhs; rw [← es2]
          rfl
        refine b2 p 3 rfl rfl (by omega) (by omega) (fun (q : ¬ p = 3) => ?_) (fun (q : ¬ ¬ p = 3) => ?_)
        · refine hP _ _ _ _ ?_; (conv => whnf)
          refine h66 _ _ ?_ ?_
          · unfold dq_then; rw [nbf q]; rfl
          · rw [← es1]
            rfl
        · (conv => whnf)
          refine ⟨by decide, ?_⟩; (conv => whnf)
          refine h66 _ _ ?_ ?_
          · unfold dq_then; rw [nbt (Decidable.of_not_not q)]
            have e3 : nI c - nI c / nI 3 * nI 3 = nI (c % 3) := pk_rem (by omega) (by decide) (by decide)
            show nI 3 * nI t + (nI c - nI c / nI 3 * nI 3) = nI (3 * t + c % 3)
            rw [e3, pk_mul, nI_add]
          · rw [← es1]
            rfl
    rw [dq_gen_s] at ht
    rw [dq_gen_s, fdC_app, fdC_app, fdC_app] at hP
    refine step 0 (by decide) ct _ _ (fun y hy => ht y (List.mem_append_left _ hy)) rfl rfl (fun x1 N1 hx1 hN1 => ?_)
    refine step 1 (by decide) _ _ _ (fun y hy => ht y (List.mem_append_right _ (List.mem_append_left _ hy))) hx1 hN1 (fun x2 N2 hx2 hN2 => ?_)
    refine step 2 (by decide) _ _ _ (fun y hy => ht y (List.mem_append_right _ (List.mem_append_right _ (List.mem_append_left _ hy)))) hx2 hN2 (fun x3 N3 hx3 hN3 => ?_)
    refine step 3 (by decide) _ _ _ (fun y hy => ht y (List.mem_append_right _ (List.mem_append_right _ (List.mem_append_right _ hy)))) hx3 hN3 (fun x4 N4 hx4 hN4 => ?_)
    subst hN4
    refine hP _ _ _ _ ?_; (conv => whnf)
    refine b2 4 4 hx4 rfl (by omega) (by omega) (fun _ => ?_) (fun (q : ¬ 4 ≤ 4) => by omega)
    refine hP _ _ _ _ ?_; (conv => whnf)
    exact ⟨rfl, rfl, rfl, rfl⟩
end DEAL
