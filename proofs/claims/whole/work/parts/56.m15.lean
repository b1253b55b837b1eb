/-! the reference: the calls that change the state -/
section M15
variable {d : Nat} {vT vM vS vL vP vW vR vF vB : Int32} {aS aH aN aX aR aD aW aI aQ aL : IA} {A : AS} {a : SA}
theorem m_records {n : Nat} (hn : n ≤ 5) (hm : vM = nI n) : Cl (d + 1) kX6_records [.ref 0] ((rfM vT aS aH vM aN vS aX vL vP vW aR vR aD vF aW aI aQ aL vB)) (.inl none) ((rfM vT aS (rcF2 n aS aH) (nI (svN n)) aN vS aX vL vP vW aR vR aD vF aW aI aQ aL vB)) := by
  have tail : ∀ {P : Nat → Lcs → List Value → Mem → Prop} (H : IA) (k : Nat) (sm' : Int32), k < 5 → sm' = nI k → rcF2 n aS aH = cpR (72 * k) aS 72 H → svN n = k + 1 →
      (∀ (pc : Nat) (L : Lcs) (S : List Value) (N : Mem), wI (Cl d) (fun r' N' => r' = (.inl none : Res) ∧ N' = (rfM vT aS (rcF2 n aS aH) (nI (svN n)) aN vS aX vL vP vW aR vR aD vF aW aI aQ aL vB)) none P (fnd pgX6_records pc) L S N → P pc L S N) →
      P 48 [some (.ref 0), none] [] ((rfM vT aS H sm' aN vS aX vL vP vW aR vR aD vF aW aI aQ aL vB)) := by
    intro P H k sm' hk hsm e1 e2 hP
    subst hsm
    rw [e1, e2] at hP
    refine hP _ _ _ _ ?_; (conv => whnf)
    have lp : ∀ (n j : Nat) (x : Int32) (N : Mem), j + n = 72 → x = nI j → N = (rfM vT aS (cpR (72 * k) aS j H) (nI k) aN vS aX vL vP vW aR vR aD vF aW aI aQ aL vB) → P 50 [some (.ref 0), some (.int x)] [] N := by
      intro n
      induction n with
      | zero =>
        intro j x N hj hx hN
        have hj : j = 72 := hj
        subst hj
        subst hN
        refine hP _ _ _ _ ?_; (conv => whnf)
        refine b2 72 72 hx rfl (by omega) (by omega) (fun _ => ?_) (fun (q : ¬ 72 ≤ 72) => by omega)
        refine hP _ _ _ _ ?_; (conv => whnf)
        refine ⟨⟨rfl, rfl⟩, ?_⟩; (conv => whnf)
        refine ⟨rfl, rfl, rfl, ?_⟩
        rw [← nI_1 k]
        rfl
      | succ n ih =>
        intro j x N hj hx hN
        subst hN
        subst hx
        have hj72 : j < 72 := by omega
        have ex : cst 72 * nI k + nI j = nI (72 * k + j) := by rw [show cst 72 = nI 72 from rfl, pk_mul, nI_add]
        refine hP _ _ _ _ ?_; (conv => whnf)
        refine b2 j 72 rfl rfl (by omega) (by omega) (fun (q : 72 ≤ j) => by omega) (fun _ => ?_); (conv => whnf)
        refine ⟨vi rfl hj72 (by decide), ?_⟩; (conv => whnf)
        refine ⟨vi (n := 72 * k + j) ex (by omega) (by decide), ?_⟩; (conv => whnf)
        refine ih (j + 1) _ _ (by omega) (nI_1 j) ?_
        have e9 : upd (cpR (72 * k) aS j H) (cst 72 * nI k + nI j).toNatClampNeg (aS (nI j).toNatClampNeg) = cpR (72 * k) aS (j + 1) H := by
          rw [ex, nI_clamp (by omega), nI_clamp (by omega)]; exact cpR_s _ _ _ _
        rw [← e9]
        rfl
    exact lp 72 0 _ _ rfl rfl (by rw [cpR_0])
  refine Cl_go e_X6_records (Nat.le_of_ble_eq_true rfl) rfl ?_; intro P hP; refine hP _ _ _ _ ?_; (conv => whnf)
  by_cases h5 : n = 5
  · subst h5
    refine b2 5 5 hm rfl (by omega) (by omega) (fun (q : ¬ 5 = 5) => by omega) (fun _ => ?_); (conv => whnf)
    have lp : ∀ (n j : Nat) (x : Int32) (N : Mem), j + n = 288 → x = nI j → N = (rfM vT aS (dnR j aH) vM aN vS aX vL vP vW aR vR aD vF aW aI aQ aL vB) → P 10 [some (.ref 0), some (.int x)] [] N := by
      intro n
      induction n with
      | zero =>
        intro j x N hj hx hN
        have hj : j = 288 := hj
        subst hj
        subst hN
        refine hP _ _ _ _ ?_; (conv => whnf)
        refine b2 288 288 hx rfl (by omega) (by omega) (fun _ => ?_) (fun (q : ¬ 288 ≤ 288) => by omega)
        refine hP _ _ _ _ ?_; (conv => whnf)
        refine ⟨⟨rfl, rfl⟩, ?_⟩; (conv => whnf)
        have e : vM - nI 1 = nI 4 := by rw [hm]; decide
        exact tail (dnR 288 aH) 4 (vM - nI 1) (by decide) e rfl rfl hP
      | succ n ih =>
        intro j x N hj hx hN
        subst hN
        subst hx
        have hj288 : j < 288 := by omega
        have ex : nI j + cst 72 = nI (j + 72) := nI_add _ _
        refine hP _ _ _ _ ?_; (conv => whnf)
        refine b2 j 288 rfl rfl (by omega) (by omega) (fun (q : 288 ≤ j) => by omega) (fun _ => ?_); (conv => whnf)
        refine ⟨vi (n := j + 72) ex (by omega) (by decide), ?_⟩; (conv => whnf)
        refine ⟨vi (n := j) rfl (by omega) (by decide), ?_⟩; (conv => whnf)
        refine ih (j + 1) _ _ (by omega) (nI_1 j) ?_
        have e9 : upd (dnR j aH) (nI j).toNatClampNeg (dnR j aH (nI j + cst 72).toNatClampNeg) = dnR (j + 1) aH := by
          rw [ex, nI_clamp (by omega), nI_clamp (by omega)]; exact dnR_s _ _
        rw [← e9]
        rfl
    exact lp 288 0 _ _ rfl rfl (by rw [dnR_0])
  · refine b2 n 5 hm rfl (by omega) (by omega) (fun _ => ?_) (fun (q : ¬ ¬ n = 5) => absurd h5 q)
    exact tail aH n vM (by omega) hm (if_pos (by omega)) (if_pos (by omega)) hP
theorem m_adds {n : Nat} {K p c : Int32} (hn : n < 20) (h0 : aS 0 = nI n) : Cl (d + 1) kX6_adds [.ref 0, .int K, .int p, .int c] ((rfM vT aS aH vM aN vS aX vL vP vW aR vR aD vF aW aI aQ aL vB)) (rV (nI (n + 1))) ((rfM vT (adF aS n K p c) aH vM aN vS aX vL vP vW aR vR aD vF aW aI aQ aL vB)) := by
  have ek : nI 12 + nI 3 * aS 0 = nI (12 + 3 * n) := by rw [h0, pk_mul, nI_add]
  have e0 : nI 12 + nI 3 * aS 0 + nI 0 = nI (12 + 3 * n) := by rw [ek, nI_add]; rfl
  have e1 : nI 12 + nI 3 * aS 0 + nI 1 = nI (13 + 3 * n) := by rw [ek, nI_add]; congr 1; omega
  have e2 : nI 12 + nI 3 * aS 0 + nI 2 = nI (14 + 3 * n) := by rw [ek, nI_add]; congr 1; omega
  have ef : upd (upd (upd (upd aS (nI 12 + nI 3 * aS 0 + nI 0).toNatClampNeg K) (nI 12 + nI 3 * aS 0 + nI 1).toNatClampNeg p) (nI 12 + nI 3 * aS 0 + nI 2).toNatClampNeg c) 0 (aS 0 + nI 1) = adF aS n K p c := by
    rw [e0, e1, e2, nI_clamp (by omega), nI_clamp (by omega), nI_clamp (by omega), h0, nI_add]; rfl
  have eg : upd (upd (upd aS (nI 12 + nI 3 * aS 0 + nI 0).toNatClampNeg K) (nI 12 + nI 3 * aS 0 + nI 1).toNatClampNeg p) (nI 12 + nI 3 * aS 0 + nI 2).toNatClampNeg c 0 = aS 0 := by
    rw [e0, e1, e2, nI_clamp (by omega), nI_clamp (by omega), nI_clamp (by omega), upd_ne _ _ (by omega), upd_ne _ _ (by omega), upd_ne _ _ (by omega)]
  refine Cl_go e_X6_adds (Nat.le_of_ble_eq_true rfl) rfl ?_; intro P hP; refine hP _ _ _ _ ?_; (conv => whnf)
  refine ⟨vi (n := 0) rfl (by decide) (by decide), ?_⟩; (conv => whnf)
  refine ⟨vi (n := 12 + 3 * n) e0 (by omega) (by decide), ?_⟩; (conv => whnf)
  refine ⟨vi (n := 13 + 3 * n) e1 (by omega) (by decide), ?_⟩; (conv => whnf)
  refine ⟨vi (n := 14 + 3 * n) e2 (by omega) (by decide), ?_⟩; (conv => whnf)
  refine ⟨vi (n := 0) rfl (by decide) (by decide), ?_⟩; (conv => whnf)
  refine ⟨vi (n := 0) rfl (by decide) (by decide), ?_⟩; (conv => whnf)
  refine ⟨vi (n := 0) rfl (by decide) (by decide), ?_⟩; (conv => whnf)
  refine ⟨rfl, ⟨.int, rfl, rfl⟩, rI ?_, ?_⟩
  · show upd _ 0 (_ + nI 1) 0 = _
    rw [upd_eq]
    show upd (upd (upd aS (nI 12 + nI 3 * aS 0 + nI 0).toNatClampNeg K) (nI 12 + nI 3 * aS 0 + nI 1).toNatClampNeg p) (nI 12 + nI 3 * aS 0 + nI 2).toNatClampNeg c 0 + nI 1 = _
    rw [eg, h0, nI_add]
  · have e9 : upd (upd (upd (upd aS (nI 12 + nI 3 * aS 0 + nI 0).toNatClampNeg K) (nI 12 + nI 3 * aS 0 + nI 1).toNatClampNeg p) (nI 12 + nI 3 * aS 0 + nI 2).toNatClampNeg c) 0 ((upd (upd (upd aS (nI 12 + nI 3 * aS 0 + nI 0).toNatClampNeg K) (nI 12 + nI 3 * aS 0 + nI 1).toNatClampNeg p) (nI 12 + nI 3 * aS 0 + nI 2).toNatClampNeg c) 0 + nI 1) = adF aS n K p c := by rw [eg]; exact ef
    rw [← e9]
    rfl
theorem m_drops {n c : Nat} (hn : n ≤ 20) (hc : c < n) (h0 : aS 0 = nI n) : Cl (d + 1) kX6_drops [.ref 0, .int (nI c)] ((rfM vT aS aH vM aN vS aX vL vP vW aR vR aD vF aW aI aQ aL vB)) (.inl none) ((rfM vT (dpF aS n c) aH vM aN vS aX vL vP vW aR vR aD vF aW aI aQ aL vB)) := by
  have e1 : aS 0 - nI 1 = nI (n - 1) := by rw [h0, pk_sub (by omega)]
  have ec : nI 3 * nI c = nI (3 * c) := pk_mul _ _
  have eu0 : ∀ k, upd aS 0 (nI (n - 1)) 0 = nI (n - 1) ∧ shf c k (upd aS 0 (nI (n - 1))) 0 = nI (n - 1) := by
    intro k
    refine ⟨upd_eq _ _ _, ?_⟩
    unfold shf
    rw [if_neg (by omega), upd_eq]
  refine Cl_go e_X6_drops (Nat.le_of_ble_eq_true rfl) rfl ?_; intro P hP; refine hP _ _ _ _ ?_; (conv => whnf)
  refine ⟨vi (n := 0) rfl (by decide) (by decide), ?_⟩; (conv => whnf)
  refine ⟨vi (n := 0) rfl (by decide) (by decide), ?_⟩; (conv => whnf)
  have lp : ∀ (z k : Nat) (x : Int32) (N : Mem), k + z = 3 * (n - 1) → 3 * c ≤ k → x = nI k → N = (rfM vT (shf c k (upd aS 0 (nI (n - 1)))) aH vM aN vS aX vL vP vW aR vR aD vF aW aI aQ aL vB) → P 14 [some (.ref 0), none, some (.int x)] [] N := by
    intro z
    induction z with
    | zero =>
      intro k x N hk hck hx hN
      have hk : k = 3 * (n - 1) := hk
      subst hN
      have e3 : nI 3 * shf c k (upd aS 0 (nI (n - 1))) 0 = nI (3 * (n - 1)) := by rw [(eu0 k).2, pk_mul]
      refine hP _ _ _ _ ?_; (conv => whnf)
      refine ⟨vi (n := 0) rfl (by decide) (by decide), ?_⟩; (conv => whnf)
      refine b2 k (3 * (n - 1)) hx e3 (by omega) (by omega) (fun _ => ?_) (fun (q : ¬ 3 * (n - 1) ≤ k) => by omega)
      refine hP _ _ _ _ ?_; (conv => whnf)
      subst hk
      exact ⟨rfl, rfl, rfl, rfl⟩
    | succ z ih =>
      intro k x N hk hck hx hN
      subst hN
      subst hx
      have e3 : nI 3 * shf c k (upd aS 0 (nI (n - 1))) 0 = nI (3 * (n - 1)) := by rw [(eu0 k).2, pk_mul]
      have ex : cst 12 + nI k = nI (12 + k) := nI_add _ _
      have ex3 : cst 12 + nI k + nI 3 = nI (12 + k + 3) := by rw [ex, nI_add]
      refine hP _ _ _ _ ?_; (conv => whnf)
      refine ⟨vi (n := 0) rfl (by decide) (by decide), ?_⟩; (conv => whnf)
      refine b2 k (3 * (n - 1)) rfl e3 (by omega) (by omega) (fun (q : 3 * (n - 1) ≤ k) => by omega) (fun _ => ?_); (conv => whnf)
      refine ⟨vi (n := 12 + k + 3) ex3 (by omega) (by decide), ?_⟩; (conv => whnf)
      refine ⟨vi (n := 12 + k) ex (by omega) (by decide), ?_⟩; (conv => whnf)
      refine ih (k + 1) _ _ (by omega) (by omega) (nI_1 k) ?_
      have e9 : upd (shf c k (upd aS 0 (nI (n - 1)))) (cst 12 + nI k).toNatClampNeg (shf c k (upd aS 0 (nI (n - 1))) (cst 12 + nI k + nI 3).toNatClampNeg) = shf c (k + 1) (upd aS 0 (nI (n - 1))) := by
        rw [ex3, ex, nI_clamp (by omega), nI_clamp (by omega)]; exact shf_s hck _
      rw [← e9]
      rfl
  refine lp (3 * (n - 1) - 3 * c) (3 * c) _ _ (by omega) (Nat.le_refl _) ec ?_
  rw [shf_0, ← e1]
  rfl
theorem m_changes {x y : Nat} (hx : x < 9) (hy : y < 9) : Cl (d + 1) kX6_changes [.ref 0, .int (nI x), .int (nI y)] ((rfM vT aS aH vM aN vS aX vL vP vW aR vR aD vF aW aI aQ aL vB)) (.inl none) ((rfM vT (exF aS x y) aH vM aN vS aX vL vP vW aR vR aD vF aW aI aQ aL vB)) := by
  have ex : nI 3 + nI x = nI (3 + x) := nI_add _ _
  have ey : nI 3 + nI y = nI (3 + y) := nI_add _ _
  have e9 : upd (upd aS (nI 3 + nI x).toNatClampNeg (aS (nI 3 + nI y).toNatClampNeg)) (nI 3 + nI y).toNatClampNeg (aS (nI 3 + nI x).toNatClampNeg) = exF aS x y := by
    rw [ex, ey, nI_clamp (by omega), nI_clamp (by omega)]; rfl
  refine Cl_go e_X6_changes (Nat.le_of_ble_eq_true rfl) rfl ?_; intro P hP; refine hP _ _ _ _ ?_; (conv => whnf)
  refine ⟨vi (n := 3 + x) ex (by omega) (by decide), ?_⟩; (conv => whnf)
  refine ⟨vi (n := 3 + y) ey (by omega) (by decide), ?_⟩; (conv => whnf)
  refine ⟨vi (n := 3 + x) ex (by omega) (by decide), ?_⟩; (conv => whnf)
  refine ⟨vi (n := 3 + y) ey (by omega) (by decide), ?_⟩; (conv => whnf)
  refine ⟨rfl, rfl, rfl, ?_⟩
  rw [← e9]
  rfl
theorem m_asks {p t : Nat} (hs : stM aS a) (hn : a.1.length < 20) (hp : p < 3) (ht : t < 27) : Cl (d + 2) kX6_asks [.ref 0, .int (nI p), .int (nI (dq_mask t))] ((rfM vT aS aH vM aN vS aX vL vP vW aR vR aD vF aW aI aQ aL vB)) (rV (bI (!Nat.beq (hq a.2.1 p &&& dq_mask t) 0)))
    ((rfM vT (adF aS a.1.length (nI (bif Nat.beq (hq a.2.1 p &&& dq_mask t) 0 then 3 else 2)) (nI p) (nI (dq_mask t))) aH vM aN vS aX vL vP vW aR vR (hdM a.2.1 9 aD) vF aW aI aQ aL vB)) := by
  have hl := Nat.lt_of_le_of_lt (Nat.and_le_left (n := hq a.2.1 p) (m := dq_mask t)) (hq_lt a.2.1 p)
  have hv := hdM_v a.2.1 aD p (by omega)
  have eh : hdM a.2.1 9 aD (nI p).toNatClampNeg &&& nI (dq_mask t) = nI (hq a.2.1 p &&& dq_mask t) := by rw [nI_clamp (by omega), hv.1, nI_and]
  refine Cl_go e_X6_asks (Nat.le_of_ble_eq_true rfl) rfl ?_; intro P hP; refine hP _ _ _ _ ?_; (conv => whnf)
  refine ⟨Nat.le_of_ble_eq_true rfl, rfl, ?_⟩; (conv => whnf)
  refine Or.inl ⟨_, _, m_looksAtMaster (d := d) hs.2.1, ?_⟩; (conv => whnf)
  refine ⟨vi rfl (show p < 4 by omega) (by decide), ?_⟩; (conv => whnf)
  have f20 : ∀ b : Bool, b = Nat.beq (hq a.2.1 p &&& dq_mask t) 0 → P 20 [some (.ref 0), some (.int (nI p)), some (.int (nI (dq_mask t))), none] [.int (bI (!b))] ((rfM vT aS aH vM aN vS aX vL vP vW aR vR (hdM a.2.1 9 aD) vF aW aI aQ aL vB)) := by
    intro b hb
    rw [← hb] at hP
    have f31 : P 31 [none, some (.int (nI p)), some (.int (nI (dq_mask t))), some (.int (bI (!b)))] [.int (nI (bif b then 3 else 2)), .ref 0] ((rfM vT aS aH vM aN vS aX vL vP vW aR vR (hdM a.2.1 9 aD) vF aW aI aQ aL vB)) := by
      refine hP _ _ _ _ ?_; (conv => whnf)
      refine ⟨Nat.le_of_ble_eq_true rfl, rfl, ?_⟩; (conv => whnf)
      refine Or.inl ⟨_, _, m_adds (d := d) (vT := vT) (aS := aS) (aH := aH) (vM := vM) (aN := aN) (vS := vS) (aX := aX) (vL := vL) (vP := vP) (vW := vW) (aR := aR) (vR := vR) (aD := hdM a.2.1 9 aD) (vF := vF) (aW := aW) (aI := aI) (aQ := aQ) (aL := aL) (vB := vB) (n := a.1.length) (K := nI (bif b then 3 else 2)) (p := nI p) (c := nI (dq_mask t)) hn hs.1.1, ?_⟩; (conv => whnf)
      exact ⟨rfl, ⟨.boolean, rfl, b01⟩, rfl, rfl⟩
    refine hP _ _ _ _ ?_; (conv => whnf)
    cases b with
    | true =>
      refine b1 0 rfl (by omega) (fun _ => ?_) (fun (q : ¬ 0 = 0) => by omega)
      refine hP _ _ _ _ ?_; (conv => whnf)
      exact f31
    | false =>
      refine b1 1 rfl (by omega) (fun (q : 1 = 0) => by omega) (fun _ => ?_); (conv => whnf)
      exact f31
  refine b1 (hq a.2.1 p &&& dq_mask t) eh (by omega) (fun (q : hq a.2.1 p &&& dq_mask t = 0) => ?_) (fun (q : ¬ hq a.2.1 p &&& dq_mask t = 0) => ?_)
  · refine hP _ _ _ _ ?_; (conv => whnf)
    exact f20 true (nbt q).symm
  · (conv => whnf)
    exact f20 false (nbf q).symm
theorem m_accuses {t : Nat} (hs : stM aS a) (hn : a.1.length < 20) (ht : t < 27) : Cl (d + 2) kX6_accuses [.ref 0, .int (nI (dq_mask t))] ((rfM vT aS aH vM aN vS aX vL vP vW aR vR aD vF aW aI aQ aL vB)) (rV (bI (Nat.beq (hq a.2.1 3) (dq_mask t))))
    ((rfM vT (adF aS a.1.length (nI (bif Nat.beq (hq a.2.1 3) (dq_mask t) then 5 else 4)) (cst (-1)) (nI (dq_mask t))) aH vM aN vS aX vL vP vW aR vR (hdM a.2.1 9 aD) vF aW aI aQ aL vB)) := by
  have hl := hq_lt a.2.1 3
  have hm := mask_lt ht
  have hv := hdM_v a.2.1 aD 3 (by omega)
  refine Cl_go e_X6_accuses (Nat.le_of_ble_eq_true rfl) rfl ?_; intro P hP; refine hP _ _ _ _ ?_; (conv => whnf)
  refine ⟨Nat.le_of_ble_eq_true rfl, rfl, ?_⟩; (conv => whnf)
  refine Or.inl ⟨_, _, m_looksAtMaster (d := d) hs.2.1, ?_⟩; (conv => whnf)
  refine ⟨vi (n := 3) rfl (by decide) (by decide), ?_⟩; (conv => whnf)
  have f19 : ∀ b : Bool, b = Nat.beq (hq a.2.1 3) (dq_mask t) → P 19 [some (.ref 0), some (.int (nI (dq_mask t))), none] [.int (bI b)] ((rfM vT aS aH vM aN vS aX vL vP vW aR vR (hdM a.2.1 9 aD) vF aW aI aQ aL vB)) := by
    intro b hb
    rw [← hb] at hP
    have f30 : P 30 [none, some (.int (nI (dq_mask t))), some (.int (bI b))] [.int (nI (bif b then 5 else 4)), .ref 0] ((rfM vT aS aH vM aN vS aX vL vP vW aR vR (hdM a.2.1 9 aD) vF aW aI aQ aL vB)) := by
      refine hP _ _ _ _ ?_; (conv => whnf)
      refine ⟨Nat.le_of_ble_eq_true rfl, rfl, ?_⟩; (conv => whnf)
      refine Or.inl ⟨_, _, m_adds (d := d) (vT := vT) (aS := aS) (aH := aH) (vM := vM) (aN := aN) (vS := vS) (aX := aX) (vL := vL) (vP := vP) (vW := vW) (aR := aR) (vR := vR) (aD := hdM a.2.1 9 aD) (vF := vF) (aW := aW) (aI := aI) (aQ := aQ) (aL := aL) (vB := vB) (n := a.1.length) (K := nI (bif b then 5 else 4)) (p := cst (-1)) (c := nI (dq_mask t)) hn hs.1.1, ?_⟩; (conv => whnf)
      exact ⟨rfl, ⟨.boolean, rfl, b01⟩, rfl, rfl⟩
    refine hP _ _ _ _ ?_; (conv => whnf)
    cases b with
    | false =>
      refine b1 0 rfl (by omega) (fun _ => ?_) (fun (q : ¬ 0 = 0) => by omega)
      refine hP _ _ _ _ ?_; (conv => whnf)
      exact f30
    | true =>
      refine b1 1 rfl (by omega) (fun (q : 1 = 0) => by omega) (fun _ => ?_); (conv => whnf)
      exact f30
  refine b2 (hq a.2.1 3) (dq_mask t) hv.1 rfl (by omega) (by omega) (fun (q : ¬ hq a.2.1 3 = dq_mask t) => ?_) (fun (q : ¬ ¬ hq a.2.1 3 = dq_mask t) => ?_)
  · refine hP _ _ _ _ ?_; (conv => whnf)
    exact f19 false (nbf q).symm
  · (conv => whnf)
    exact f19 true (nbt (Decidable.of_not_not q)).symm
end M15
