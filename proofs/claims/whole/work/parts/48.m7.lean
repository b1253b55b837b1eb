/-! the reference: the master's deal -/
def plS (f : IA) (q : NA) : Prop := ∀ c, c < 9 → f (3 + c) = nI (q c) ∧ q c < 4
def hdM (q : NA) (n : Nat) (f : IA) : IA := fun j => if j < 4 then nI (mkP (fun c => Nat.beq (q c) j) n) else f j
theorem hdM_0 (q : NA) (f : IA) : hdM q 0 f = zer 4 f := rfl
theorem hdM_s {q : NA} {n : Nat} (hq : q n < 4) (f : IA) : upd (hdM q n f) (q n) (hdM q n f (q n) ||| nI (2 ^ n)) = hdM q (n + 1) f := by
  funext j
  unfold upd hdM
  by_cases hj : j = q n
  · subst hj
    rw [if_pos rfl, if_pos hq, if_pos hq, nI_or]
    show _ = nI (mkP _ n ||| (bif Nat.beq (q n) (q n) then 2 ^ n else 0))
    rw [nbt rfl]; rfl
  · rw [if_neg hj]
    by_cases hl : j < 4
    · rw [if_pos hl, if_pos hl]
      show _ = nI (mkP _ n ||| (bif Nat.beq (q n) j then 2 ^ n else 0))
      rw [nbf (fun z => hj z.symm)]
      show _ = nI (_ ||| 0)
      rw [Nat.or_zero]
    · rw [if_neg hl, if_neg hl]
theorem hdM_v (q : NA) (f : IA) : ∀ p, p < 4 → hdM q 9 f p = nI (hq q p) ∧ hq q p < 512 := fun p hp => ⟨if_pos hp, hq_lt q p⟩
def mtG (x : Nat) : Nat → Nat
  | 0 => 0
  | n + 1 => if dq_mask n = x then n else mtG x n
theorem mtG_all : (List.range 27).all (fun t => Nat.beq (mtG (dq_mask t) 27) t && Nat.beq (ntr (dq_mask t) 9) t) = true := by decide +kernel
set_option maxRecDepth 100000 in
theorem itr_all : (List.range 512).all (fun x => !itr x 3 || (List.range 27).any (fun t => Nat.beq x (dq_mask t))) = true := by decide +kernel
theorem itr_mask {x : Nat} (hx : x < 512) (h : itr x 3 = true) : ∃ t, t < 27 ∧ x = dq_mask t := by
  have h1 := List.all_eq_true.mp itr_all x (List.mem_range.mpr hx)
  rw [h] at h1
  obtain ⟨t, ht, h2⟩ := List.any_eq_true.mp h1
  exact ⟨t, List.mem_range.mp ht, Nat.eq_of_beq_eq_true h2⟩
theorem mtG_eq {x : Nat} (hx : x < 512) (h : itr x 3 = true) : mtG x 27 = ntr x 9 := by
  obtain ⟨t, ht, rfl⟩ := itr_mask hx h
  have h1 := List.all_eq_true.mp mtG_all t (List.mem_range.mpr ht)
  rw [Bool.and_eq_true] at h1
  rw [Nat.eq_of_beq_eq_true h1.1, Nat.eq_of_beq_eq_true h1.2]
section M7
variable {d : Nat} {vT vM vS vL vP vW vR vF vB : Int32} {aS aH aN aX aR aD aW aI aQ aL : IA} {cl : List rl_C} {q : NA}
theorem m_looksAtMaster (hp : plS aS q) : Cl (d + 1) kX6_looksAtMaster [.ref 0] ((rfM vT aS aH vM aN vS aX vL vP vW aR vR aD vF aW aI aQ aL vB)) (.inl none) ((rfM vT aS aH vM aN vS aX vL vP vW aR vR (hdM q 9 aD) vF aW aI aQ aL vB)) := by
  refine Cl_go e_X6_looksAtMaster (Nat.le_of_ble_eq_true rfl) rfl ?_; intro P hP; refine hP _ _ _ _ ?_; (conv => whnf)
  have l2 : ∀ (n c : Nat) (x : Int32) (N : Mem), c + n = 9 → x = nI c → N = (rfM vT aS aH vM aN vS aX vL vP vW aR vR (hdM q c aD) vF aW aI aQ aL vB) → P 22 [some (.ref 0), some (.int x)] [] N := by
    intro n
    induction n with
    | zero =>
      intro c x N hc hx hN
      have hc : c = 9 := hc
      subst hN
      subst hc
      refine hP _ _ _ _ ?_; (conv => whnf)
      refine b2 9 9 hx rfl (by omega) (by omega) (fun _ => ?_) (fun (q : ¬ 9 ≤ 9) => by omega)
      refine hP _ _ _ _ ?_; (conv => whnf)
      exact ⟨rfl, rfl, rfl, rfl⟩
    | succ n ih =>
      intro c x N hc hx hN
      subst hN
      subst hx
      have hc9 : c < 9 := by omega
      obtain ⟨e1, e2⟩ := hp c hc9
      have ex : nI 3 + nI c = nI (3 + c) := nI_add _ _
      have ev : aS (nI 3 + nI c).toNatClampNeg = nI (q c) := by rw [ex, nI_clamp (by omega)]; exact e1
      have eu := hdM_s e2 aD
      refine hP _ _ _ _ ?_; (conv => whnf)
      refine b2 c 9 rfl rfl (by omega) (by omega) (fun (q : 9 ≤ c) => by omega) (fun _ => ?_); (conv => whnf)
      refine ⟨vi (n := 3 + c) ex (by omega) (by decide), ?_⟩; (conv => whnf)
      refine ⟨vi (n := q c) ev e2 (by decide), ?_⟩; (conv => whnf)
      refine ⟨vi (n := q c) ev e2 (by decide), ?_⟩; (conv => whnf)
      refine ih (c + 1) _ _ (by omega) (nI_1 c) ?_
      have e9 : upd (hdM q c aD) (aS (nI 3 + nI c).toNatClampNeg).toNatClampNeg (hdM q c aD (aS (nI 3 + nI c).toNatClampNeg).toNatClampNeg ||| nI 1 <<< (nI c &&& 31)) = hdM q (c + 1) aD := by
        rw [ev, nI_clamp (by omega), sh_1 (by omega)]; exact eu
      rw [← e9]
      rfl
  have l1 : ∀ (n j : Nat) (x : Int32) (N : Mem), j + n = 4 → x = nI j → N = (rfM vT aS aH vM aN vS aX vL vP vW aR vR (zer j aD) vF aW aI aQ aL vB) → P 2 [some (.ref 0), some (.int x)] [] N := by
    intro n
    induction n with
    | zero =>
      intro j x N hj hx hN
      have hj : j = 4 := hj
      subst hN
      subst hj
      refine hP _ _ _ _ ?_; (conv => whnf)
      refine b2 4 4 hx rfl (by omega) (by omega) (fun _ => ?_) (fun (q : ¬ 4 ≤ 4) => by omega)
      refine hP _ _ _ _ ?_; (conv => whnf)
      exact l2 9 0 _ _ rfl rfl rfl
    | succ n ih =>
      intro j x N hj hx hN
      subst hN
      subst hx
      refine hP _ _ _ _ ?_; (conv => whnf)
      refine b2 j 4 rfl rfl (by omega) (by omega) (fun (q : 4 ≤ j) => by omega) (fun _ => ?_); (conv => whnf)
      refine ⟨vi rfl (show j < 4 by omega) (by decide), ?_⟩; (conv => whnf)
      refine ih (j + 1) _ _ (by omega) (nI_1 j) ?_
      have e9 : upd (zer j aD) (nI j).toNatClampNeg (nI 0) = zer (j + 1) aD := by rw [nI_clamp (show j < 2 ^ 31 by omega)]; exact zer_s j aD
      rw [← e9]
      rfl
  exact l1 4 0 _ _ rfl rfl (by rw [zer_0])
theorem m_masterTriple (hp : plS aS q) (hi : itr (hq q 3) 3 = true) : Cl (d + 2) kX6_masterTriple [.ref 0] ((rfM vT aS aH vM aN vS aX vL vP vW aR vR aD vF aW aI aQ aL vB)) (rV (nI (ntr (hq q 3) 9))) ((rfM vT aS aH vM aN vS aX vL vP vW aR vR (hdM q 9 aD) vF aW aI aQ aL vB)) := by
  rw [← mtG_eq (hq_lt q 3) hi]
  refine Cl_go e_X6_masterTriple (Nat.le_of_ble_eq_true rfl) rfl ?_; intro P hP; refine hP _ _ _ _ ?_; (conv => whnf)
  refine ⟨Nat.le_of_ble_eq_true rfl, rfl, ?_⟩; (conv => whnf)
  refine Or.inl ⟨_, _, m_looksAtMaster (d := d) hp, ?_⟩
  have lp : ∀ (n i : Nat) (x y : Int32), i + n = 27 → x = nI i → y = nI (mtG (hq q 3) i) → P 8 [some (.ref 0), some (.int y), some (.int x)] [] ((rfM vT aS aH vM aN vS aX vL vP vW aR vR (hdM q 9 aD) vF aW aI aQ aL vB)) := by
    intro n
    induction n with
    | zero =>
      intro i x y hi hx hy
      have hi : i = 27 := hi
      subst hi
      refine hP _ _ _ _ ?_; (conv => whnf)
      refine b2 27 27 hx rfl (by omega) (by omega) (fun _ => ?_) (fun (q : ¬ 27 ≤ 27) => by omega)
      refine hP _ _ _ _ ?_; (conv => whnf)
      exact ⟨rfl, ⟨.int, rfl, rfl⟩, rI (hy), rfl⟩
    | succ n ih =>
      intro i x y hi hx hy
      subst hx
      subst hy
      have hi27 : i < 27 := by omega
      have hl := hq_lt q 3
      have hml := mask_lt hi27
      refine hP _ _ _ _ ?_; (conv => whnf)
      refine b2 i 27 rfl rfl (by omega) (by omega) (fun (q : 27 ≤ i) => by omega) (fun _ => ?_); (conv => whnf)
      refine ⟨Nat.le_of_ble_eq_true rfl, rfl, ?_⟩; (conv => whnf)
      refine Or.inl ⟨_, _, Cl_s (m_maskOf hi27), ?_⟩; (conv => whnf)
      refine ⟨vi (n := 3) rfl (by decide) (by decide), ?_⟩; (conv => whnf)
      refine b2 (dq_mask i) (hq q 3) rfl rfl (by omega) (by omega) (fun (z : ¬ dq_mask i = hq q 3) => ?_) (fun (z : ¬ ¬ dq_mask i = hq q 3) => ?_)
      · refine hP _ _ _ _ ?_; (conv => whnf)
        refine hP _ _ _ _ ?_; (conv => whnf)
        refine ih (i + 1) _ _ (by omega) (nI_1 i) ?_
        show _ = nI (if dq_mask i = hq q 3 then i else mtG (hq q 3) i)
        rw [if_neg z]
      · (conv => whnf)
        refine hP _ _ _ _ ?_; (conv => whnf)
        refine ih (i + 1) _ _ (by omega) (nI_1 i) ?_
        show _ = nI (if dq_mask i = hq q 3 then i else mtG (hq q 3) i)
        rw [if_pos (Decidable.of_not_not z)]
  (conv => whnf)
  exact lp 27 0 _ _ rfl rfl rfl
theorem m_holdsTrue (hc : clS aS cl) (hp : plS aS q) (hi : itr (hq q 3) 3 = true) {k : Nat} (hk : k < cl.length) : Cl (d + 3) kX6_holdsTrue [.ref 0, .int (nI k)] ((rfM vT aS aH vM aN vS aX vL vP vW aR vR aD vF aW aI aQ aL vB)) (rV (bI (agG (cl, q, 0, 0) k))) ((rfM vT aS aH vM aN vS aX vL vP vW aR vR (hdM q 9 aD) vF aW aI aQ aL vB)) := by
  have hg : cl[k]? = some cl[k] := List.getElem?_eq_getElem hk
  have hX := hc.2.2.1 _ (List.mem_of_getElem? hg)
  have e : agG (cl, q, 0, 0) k = agM cl[k] (hq q (cl[k]).2.1) := by
    unfold agG
    rw [show clG (cl, q, 0, 0) k = cl[k] by unfold clG; rw [List.getD_eq_getElem?_getD, hg]; rfl]
    rw [agM_eq hX (fun h4 => by rw [hX.1.2.2 h4]; exact itr_mask (hq_lt q 3) hi)]
  rw [e]
  refine Cl_go e_X6_holdsTrue (Nat.le_of_ble_eq_true rfl) rfl ?_; intro P hP; refine hP _ _ _ _ ?_; (conv => whnf)
  refine ⟨Nat.le_of_ble_eq_true rfl, rfl, ?_⟩; (conv => whnf)
  refine Or.inl ⟨_, _, m_looksAtMaster (d := d + 1) hp, ?_⟩; (conv => whnf)
  refine ⟨Nat.le_of_ble_eq_true rfl, rfl, ?_⟩; (conv => whnf)
  refine Or.inl ⟨_, _, m_agrees (d := d) (vT := vT) (aS := aS) (aH := aH) (vM := vM) (aN := aN) (vS := vS) (aX := aX) (vL := vL) (vP := vP) (vW := vW) (aR := aR) (vR := vR) (aD := hdM q 9 aD) (vF := vF) (aW := aW) (aI := aI) (aQ := aQ) (aL := aL) (vB := vB) (h := hq q) hc hg (hdM_v q aD), ?_⟩; (conv => whnf)
  exact ⟨rfl, ⟨.boolean, rfl, b01⟩, rfl, rfl⟩
theorem m_untrueMany (hc : clS aS cl) (hp : plS aS q) (hit : itr (hq q 3) 3 = true) : ∃ hd, Cl (d + 4) kX6_untrueMany [.ref 0] ((rfM vT aS aH vM aN vS aX vL vP vW aR vR aD vF aW aI aQ aL vB)) (rV (nI (cntN (fun k => !agG (cl, q, 0, 0) k) cl.length))) ((rfM vT aS aH vM aN vS aX vL vP vW aR vR hd vF aW aI aQ aL vB)) := by
  have hl := hc.2.1
  suffices hh : ∃ r N, (r = rV (nI (cntN (fun k => !agG (cl, q, 0, 0) k) cl.length)) ∧ ∃ hd, N = (rfM vT aS aH vM aN vS aX vL vP vW aR vR hd vF aW aI aQ aL vB)) ∧ Cl (d + 4) kX6_untrueMany [.ref 0] ((rfM vT aS aH vM aN vS aX vL vP vW aR vR aD vF aW aI aQ aL vB)) r N by
    obtain ⟨r, N, ⟨rfl, hd, rfl⟩, h⟩ := hh
    exact ⟨hd, h⟩
  refine Cl_goQ e_X6_untrueMany rfl (Nat.le_of_ble_eq_true rfl) (fun r M' q => by obtain ⟨-, hd, rfl⟩ := q; rfl) (⟨_, _, rfl, aD, rfl⟩) ?_; intro P hP; refine hP _ _ _ _ ?_; (conv => whnf)
  have lp : ∀ (n i : Nat) (x y : Int32) (hd : IA), i + n = cl.length → x = nI i → y = nI (cntN (fun k => !agG (cl, q, 0, 0) k) i) → P 4 [some (.ref 0), some (.int y), some (.int x)] [] ((rfM vT aS aH vM aN vS aX vL vP vW aR vR hd vF aW aI aQ aL vB)) := by
    intro n
    induction n with
    | zero =>
      intro i x y hd hi hx hy
      have hi : i = cl.length := hi
      refine hP _ _ _ _ ?_; (conv => whnf)
      refine ⟨vi (n := 0) rfl (by decide) (by decide), ?_⟩; (conv => whnf)
      refine b2 i cl.length hx hc.1 (by omega) (by omega) (fun _ => ?_) (fun (q : ¬ cl.length ≤ i) => by omega)
      refine hP _ _ _ _ ?_; (conv => whnf)
      rw [hi] at hy
      exact ⟨rfl, ⟨.int, rfl, rfl⟩, by rw [hy], hd, rfl⟩
    | succ n ih =>
      intro i x y hd hi hx hy
      subst hx
      have hil : i < cl.length := by omega
      refine hP _ _ _ _ ?_; (conv => whnf)
      refine ⟨vi (n := 0) rfl (by decide) (by decide), ?_⟩; (conv => whnf)
      refine b2 i cl.length rfl hc.1 (by omega) (by omega) (fun (q : cl.length ≤ i) => by omega) (fun _ => ?_); (conv => whnf)
      refine ⟨Nat.le_of_ble_eq_true rfl, rfl, ?_⟩; (conv => whnf)
      refine Or.inl ⟨_, _, m_holdsTrue (d := d) (vT := vT) (aS := aS) (aH := aH) (vM := vM) (aN := aN) (vS := vS) (aX := aX) (vL := vL) (vP := vP) (vW := vW) (aR := aR) (vR := vR) (aD := hd) (vF := vF) (aW := aW) (aI := aI) (aQ := aQ) (aL := aL) (vB := vB) hc hp hit hil, ?_⟩; (conv => whnf)
      cases hb : agG (cl, q, 0, 0) i with
      | true =>
        refine b1 1 rfl (by omega) (fun (q : 1 = 0) => by omega) (fun _ => ?_); (conv => whnf)
        refine hP _ _ _ _ ?_; (conv => whnf)
        exact ih (i + 1) _ _ _ (by omega) (nI_1 i) (by rw [hy]; exact cntN_f (p := fun k => !agG (cl, q, 0, 0) k) (by rw [hb]; rfl))
      | false =>
        refine b1 0 rfl (by omega) (fun _ => ?_) (fun (q : ¬ 0 = 0) => by omega)
        refine hP _ _ _ _ ?_; (conv => whnf)
        refine hP _ _ _ _ ?_; (conv => whnf)
        exact ih (i + 1) _ _ _ (by omega) (nI_1 i) (by rw [hy]; exact cntN_t (p := fun k => !agG (cl, q, 0, 0) k) (by rw [hb]; rfl))
  exact lp cl.length 0 _ _ aD (Nat.zero_add _) rfl rfl
end M7
