/-! the reference: all deals gone through -/
theorem cm1 : cst (-1) = nI 4294967295 := by decide
def gk2 (r one two : Nat) : Bool := Nat.beq ((r &&& (one ^^^ 4294967295)) &&& (two ^^^ 4294967295)) (r - one - two) && (dq_is2 two == Nat.beq (pcN two) 2) && Nat.blt two 512
def gk1 (r one : Nat) : Bool := Nat.beq (r &&& (one ^^^ 4294967295)) (r - one) && (dq_is2 one == Nat.beq (pcN one) 2) && Nat.blt one 512 && Nat.ble one r && (dq_sub (r - one) 512 (r - one)).all (gk2 r one) && dq_same (dq_sub (r - one) 64 (r - one)) (dq_sub (r - one) 512 (r - one))
def gk0 (t : Nat) : Bool := Nat.beq (511 &&& (dq_mask t ^^^ 4294967295)) (511 - dq_mask t) && Nat.beq (511 - (511 - dq_mask t)) (dq_mask t) && (dq_sub (511 - dq_mask t) 512 (511 - dq_mask t)).all (gk1 (511 - dq_mask t)) && dq_same (dq_sub (511 - dq_mask t) 64 (511 - dq_mask t)) (dq_sub (511 - dq_mask t) 512 (511 - dq_mask t))
set_option maxRecDepth 100000 in
theorem gk_all : (List.range 27).all gk0 = true := by decide +kernel
/-- what is counted of the deals that agree -/
def gI (vF : Int32) (aW aI aQ : IA) (cts : Bool) (q : Nat → Bool) (L : List Nat) (lf : Int32) (lw li lp : IA) : Prop := match cts with
  | false => lf = vF ∧ lw = aW ∧ li = aI ∧ lp = aQ
  | true => lf = nI (L.countP q) ∧ (∀ c p, c < 9 → p < 4 → lw (4 * c + p) = nI (L.countP (fun x => q x && (dq_hn x p).testBit c))) ∧
      (∀ t, t < 27 → li t = nI (L.countP (fun x => q x && Nat.beq (dq_hn x 3) (dq_mask t)))) ∧ (∀ p t, p < 3 → t < 27 → lp (27 * p + t) = nI (L.countP (fun x => q x && Nat.beq (dq_hn x p &&& dq_mask t) 0)))
theorem cntP_snoc (L : List Nat) (x : Nat) (q : Nat → Bool) : (L ++ [x]).countP q = L.countP q + (bif q x then 1 else 0) := by
  rw [List.countP_append, List.countP_cons, List.countP_nil]
  cases q x <;> rfl
theorem gI_no {vF : Int32} {aW aI aQ : IA} {cts : Bool} {q : Nat → Bool} {L : List Nat} {lf : Int32} {lw li lp : IA} (h : gI vF aW aI aQ cts q L lf lw li lp) {x : Nat} (hx : q x = false) : gI vF aW aI aQ cts q (L ++ [x]) lf lw li lp := by
  cases cts with
  | false => exact h
  | true =>
    obtain ⟨h1, h2, h3, h4⟩ := h
    refine ⟨?_, fun c p hc hp => ?_, fun t ht => ?_, fun p t hp ht => ?_⟩
    · rw [h1, cntP_snoc, hx]; rfl
    · rw [h2 c p hc hp, cntP_snoc, hx]; rfl
    · rw [h3 t ht, cntP_snoc, hx]; rfl
    · rw [h4 p t hp ht, cntP_snoc, hx]; rfl
theorem gI_yes {vF : Int32} {aW aI aQ : IA} {q : Nat → Bool} {L : List Nat} {lf : Int32} {lw li lp : IA} (h : gI vF aW aI aQ true q L lf lw li lp) {x t : Nat} (ht : t < 27) (hm : dq_hn x 3 = dq_mask t) (hx : q x = true) : gI vF aW aI aQ true q (L ++ [x]) (lf + nI 1) (lwA (dq_hn x) 36 lw) (upd li t (li t + nI 1)) (lpA (dq_hn x) 27 0 lp) := by
  obtain ⟨h1, h2, h3, h4⟩ := h
  refine ⟨?_, fun c p hc hp => ?_, fun s hs => ?_, fun p s hp hs => ?_⟩
  · rw [h1, cntP_snoc, hx, nI_add]; rfl
  · unfold lwA
    rw [if_pos (by omega), h2 c p hc hp, cntP_snoc, hx, nI_add, show (4 * c + p) % 4 = p by omega, show (4 * c + p) / 4 = c by omega]; rfl
  · unfold upd
    by_cases e : s = t
    · subst e
      rw [if_pos rfl, h3 s hs, cntP_snoc, hx, nI_add, hm, nbt rfl]; rfl
    · rw [if_neg e, h3 s hs, cntP_snoc, hx, hm, nbf (fun z => e (mask_inj ht hs z).symm)]; rfl
  · unfold lpA
    rw [if_pos (by omega), h4 p s hp hs, cntP_snoc, hx, nI_add, show (27 * p + s) % 27 = s by omega, show (27 * p + s) / 27 = p by omega]; rfl
/-- the deals with a first hand, in the reference's order -/
def gL2 (r one k two : Nat) : List Nat := ((dq_sub (r - one) k two).filter dq_is2).map (fun two => dq_4 one two (r - one - two) (511 - r))
def gL1 (r k one : Nat) : List Nat := (dq_sub r k one).flatMap (fun one => bif dq_is2 one then gL2 r one 512 (r - one) else [])
theorem sub_s (r k x : Nat) (h : 0 < x) : dq_sub r (k + 1) x = x :: dq_sub r k ((x - 1) &&& r) := by
  show (bif Nat.beq x 0 then [] else _) = _
  rw [nbf (by omega)]; rfl
theorem sub_0 (r k : Nat) : dq_sub r (k + 1) 0 = [] := rfl
theorem sub_lt {x k r : Nat} (h : 0 < x) (hk : x < k + 1) : (x - 1) &&& r < k := Nat.lt_of_le_of_lt Nat.and_le_left (by omega)
theorem gL2_s {r one k two : Nat} (h : 0 < two) : gL2 r one (k + 1) two = (bif dq_is2 two then [dq_4 one two (r - one - two) (511 - r)] else []) ++ gL2 r one k ((two - 1) &&& (r - one)) := by
  unfold gL2
  rw [sub_s _ _ _ h, List.filter_cons]
  cases dq_is2 two <;> rfl
theorem gL1_s {r k one : Nat} (h : 0 < one) : gL1 r (k + 1) one = (bif dq_is2 one then gL2 r one 512 (r - one) else []) ++ gL1 r k ((one - 1) &&& r) := by
  unfold gL1
  rw [sub_s _ _ _ h, List.flatMap_cons]
theorem flat_congr {f g : Nat → List Nat} : ∀ l : List Nat, (∀ x ∈ l, f x = g x) → l.flatMap f = l.flatMap g := by
  intro l
  induction l with
  | nil => intro _; rfl
  | cons a r ih => intro h; rw [List.flatMap_cons, List.flatMap_cons, h a List.mem_cons_self, ih (fun x hx => h x (List.mem_cons_of_mem _ hx))]
def goQf (cl : List rl_C) (w : Nat) (x : Nat) : Bool := allBut cl (dq_hn x) w cl.length
section M4
variable {d : Nat} {vT vM vS vL vP vW vR vF vB : Int32} {aS aH aN aX aR aD aW aI aQ aL : IA} {cl : List rl_C} {w : Nat} {wi : Int32} {cts : Bool}
def goEnd (vT : Int32) (aS aH : IA) (vM : Int32) (aN : IA) (vS : Int32) (aX : IA) (vL vP vW : Int32) (aR : IA) (vR : Int32) (aD : IA) (vF : Int32) (aW aI aQ aL : IA) (vB : Int32) (cts : Bool) (q : Nat → Bool) : Res → Mem → Prop := fun r N => r = rV (nI (dq_2.countP q)) ∧ ∃ hd lf lw li lp, gI vF aW aI aQ cts q dq_2 lf lw li lp ∧ N = (rfM vT aS aH vM aN vS aX vL vP vW aR vR hd lf lw li lp aL vB)
theorem goEnd_ne (vT : Int32) (aS aH : IA) (vM : Int32) (aN : IA) (vS : Int32) (aX : IA) (vL vP vW : Int32) (aR : IA) (vR : Int32) (aD : IA) (vF : Int32) (aW aI aQ aL : IA) (vB : Int32) (cts : Bool) (q : Nat → Bool) : ∃ r N, goEnd vT aS aH vM aN vS aX vL vP vW aR vR aD vF aW aI aQ aL vB cts q r N := by
  suffices hh : ∃ hd lf lw li lp, gI vF aW aI aQ cts q dq_2 lf lw li lp by
    obtain ⟨hd, lf, lw, li, lp, h⟩ := hh
    exact ⟨_, _, rfl, hd, lf, lw, li, lp, h, rfl⟩
  cases cts with
  | false => exact ⟨aD, vF, aW, aI, aQ, rfl, rfl, rfl, rfl⟩
  | true =>
    refine ⟨aD, nI (dq_2.countP q), fun j => nI (dq_2.countP (fun x => q x && (dq_hn x (j % 4)).testBit (j / 4))), fun t => nI (dq_2.countP (fun x => q x && Nat.beq (dq_hn x 3) (dq_mask t))), fun j => nI (dq_2.countP (fun x => q x && Nat.beq (dq_hn x (j / 27) &&& dq_mask (j % 27)) 0)), rfl, fun c p hc hp => ?_, fun t ht => rfl, fun p t hp ht => ?_⟩
    · show nI (dq_2.countP (fun x => q x && (dq_hn x ((4 * c + p) % 4)).testBit ((4 * c + p) / 4))) = _
      rw [show (4 * c + p) % 4 = p by omega, show (4 * c + p) / 4 = c by omega]
    · show nI (dq_2.countP (fun x => q x && Nat.beq (dq_hn x ((27 * p + t) / 27) &&& dq_mask ((27 * p + t) % 27)) 0)) = _
      rw [show (27 * p + t) % 27 = t by omega, show (27 * p + t) / 27 = p by omega]
theorem m_goes0 (hc : clS aS cl) (hw : (wi = cst (-1) ∧ w = 20) ∨ (wi = nI w ∧ w < 20)) (h0 : gI vF aW aI aQ cts (goQf cl w) [] vF aW aI aQ) :
    ∃ r N, goEnd vT aS aH vM aN vS aX vL vP vW aR vR aD vF aW aI aQ aL vB cts (goQf cl w) r N ∧ Cl (d + 4) kX6_goes [.ref 0, .int wi, .int (bI cts)] ((rfM vT aS aH vM aN vS aX vL vP vW aR vR aD vF aW aI aQ aL vB)) r N := by
  refine Cl_goQ e_X6_goes rfl (Nat.le_of_ble_eq_true rfl) (fun r M' q => by obtain ⟨-, hd, lf, lw, li, lp, -, rfl⟩ := q; rfl) (goEnd_ne vT aS aH vM aN vS aX vL vP vW aR vR aD vF aW aI aQ aL vB cts (goQf cl w)) ?_; intro P hP; refine hP _ _ _ _ ?_; (conv => whnf)
  -- over the second hands
  have inn : ∀ (t r one : Nat), t < 27 → r = 511 - dq_mask t → gk1 r one = true → dq_is2 one = true → ∀ (k two : Nat) (hd : IA) (lf : Int32) (lw li lp : IA) (L : List Nat) (n x : Int32), two < k → x = nI two → (∀ y ∈ dq_sub (r - one) k two, gk2 r one y = true) → hd 3 = nI (dq_mask t) → gI vF aW aI aQ cts (goQf cl w) L lf lw li lp → n = nI (L.countP (goQf cl w)) →
      (∀ (hd' : IA) (lf' : Int32) (lw' li' lp' : IA) (n' : Int32), hd' 3 = nI (dq_mask t) → gI vF aW aI aQ cts (goQf cl w) (L ++ gL2 r one k two) lf' lw' li' lp' → n' = nI ((L ++ gL2 r one k two).countP (goQf cl w)) → P 172 [some (.ref 0), some (.int wi), some (.int (bI cts)), some (.int n'), some (.int (nI t)), some (.int (nI r)), some (.int (nI one)), none, none] [] ((rfM vT aS aH vM aN vS aX vL vP vW aR vR hd' lf' lw' li' lp' aL vB))) →
      P 55 [some (.ref 0), some (.int wi), some (.int (bI cts)), some (.int n), some (.int (nI t)), some (.int (nI r)), some (.int (nI one)), some (.int x), none] [] ((rfM vT aS aH vM aN vS aX vL vP vW aR vR hd lf lw li lp aL vB)) := by
    intro t r one ht hr g1 h2
    have hm := mask_lt ht
    unfold gk1 at g1
    rw [Bool.and_eq_true, Bool.and_eq_true, Bool.and_eq_true, Bool.and_eq_true, Bool.and_eq_true] at g1
    obtain ⟨⟨⟨⟨⟨a1, a2⟩, a3⟩, a4⟩, a5⟩, a6⟩ := g1
    have a1 := Nat.eq_of_beq_eq_true a1
    have a2 := eq_of_beq a2
    rw [h2] at a2
    have a2 := Nat.eq_of_beq_eq_true a2.symm
    have a3 : one < 512 := Nat.le_of_ble_eq_true a3
    intro k
    induction k with
    | zero => intro two _ _ _ _ _ _ _ _ hk; omega
    | succ k ih =>
      intro two hd lf lw li lp L n x hk hx hy hh3 hI hn hex
      subst hx
      by_cases h0 : two = 0
      · subst h0
        have e : gL2 r one (k + 1) 0 = [] := rfl
        rw [e, List.append_nil] at hex
        refine hP _ _ _ _ ?_; (conv => whnf)
        refine b1 0 rfl (by omega) (fun _ => ?_) (fun (q : ¬ 0 ≤ 0) => by omega)
        exact hex _ _ _ _ _ _ hh3 hI hn
      · have h0 : 0 < two := by omega
        have hs := sub_s (r - one) k two h0
        have g2 := hy two (by rw [hs]; exact List.mem_cons_self)
        have hy2 : ∀ y ∈ dq_sub (r - one) k ((two - 1) &&& (r - one)), gk2 r one y = true := fun y q => hy y (by rw [hs]; exact List.mem_cons_of_mem _ q)
        unfold gk2 at g2
        rw [Bool.and_eq_true, Bool.and_eq_true] at g2
        obtain ⟨⟨c1, c2⟩, c3⟩ := g2
        have c1 := Nat.eq_of_beq_eq_true c1
        have c2 := eq_of_beq c2
        have c3 : two < 512 := Nat.le_of_ble_eq_true c3
        have en : nI two - nI 1 &&& nI r &&& (nI one ^^^ cst (-1)) = nI ((two - 1) &&& (r - one)) := by
          rw [pk_sub (by omega), cm1, nI_xor, nI_and, nI_and, Nat.and_assoc, a1]
        have er : nI r &&& (nI one ^^^ cst (-1)) &&& (nI two ^^^ cst (-1)) = nI (r - one - two) := by
          rw [cm1, nI_xor, nI_xor, nI_and, nI_and, c1]
        have hxx := hn4 (a := one) (b := two) (c := r - one - two) (e := 511 - r) a3 c3 (by omega) (by omega)
        have hr3 : 511 - r = dq_mask t := by omega
        generalize hX : dq_4 one two (r - one - two) (511 - r) = X at hxx
        have hmX : dq_hn X 3 = dq_mask t := by rw [hxx.2.2.2, hr3]
        -- behind a deal
        have tail : ∀ (hd' : IA) (lf' : Int32) (lw' li' lp' : IA) (n' : Int32) (L' : List Nat), L' = L ++ (bif dq_is2 two then [X] else []) → hd' 3 = nI (dq_mask t) → gI vF aW aI aQ cts (goQf cl w) L' lf' lw' li' lp' → n' = nI (L'.countP (goQf cl w)) →
            P 155 [some (.ref 0), some (.int wi), some (.int (bI cts)), some (.int n'), some (.int (nI t)), some (.int (nI r)), some (.int (nI one)), some (.int (nI two)), none] [] ((rfM vT aS aH vM aN vS aX vL vP vW aR vR hd' lf' lw' li' lp' aL vB)) := by
          intro hd' lf' lw' li' lp' n' L' hL' q3 qI qn
          refine hP _ _ _ _ ?_; (conv => whnf)
          refine ih ((two - 1) &&& (r - one)) hd' lf' lw' li' lp' L' n' _ (sub_lt h0 hk) en hy2 q3 qI qn ?_
          intro hd2 lf2 lw2 li2 lp2 n2 r3 rI rn
          refine hex hd2 lf2 lw2 li2 lp2 n2 r3 ?_ ?_
          · rw [gL2_s h0, ← List.append_assoc, hX, ← hL']; exact rI
          · rw [gL2_s h0, ← List.append_assoc, hX, ← hL']; exact rn
        refine hP _ _ _ _ ?_; (conv => whnf)
        refine b1 two rfl (by omega) (fun (q : two ≤ 0) => by omega) (fun _ => ?_); (conv => whnf)
        refine ⟨Nat.le_of_ble_eq_true rfl, rfl, ?_⟩; (conv => whnf)
        refine Or.inl ⟨_, _, Cl_s (m_bits a3), ?_⟩; (conv => whnf)
        refine b2 (pcN one) 2 rfl rfl (by omega) (by omega) (fun (q : ¬ pcN one = 2) => absurd a2 q) (fun _ => ?_); (conv => whnf)
        refine ⟨vi (n := 0) rfl (by decide) (by decide), ?_⟩; (conv => whnf)
        refine ⟨vi (n := 1) rfl (by decide) (by decide), ?_⟩; (conv => whnf)
        refine ⟨vi (n := 2) rfl (by decide) (by decide), ?_⟩; (conv => whnf)
        refine ⟨Nat.le_of_ble_eq_true rfl, rfl, ?_⟩; (conv => whnf)
        refine Or.inl ⟨_, _, Cl_s (m_bits c3), ?_⟩; (conv => whnf)
        generalize hH : upd (upd (upd hd (cst 0).toNatClampNeg (nI one)) (cst 1).toNatClampNeg (nI two)) (cst 2).toNatClampNeg (nI r &&& (nI one ^^^ cst (-1)) &&& (nI two ^^^ cst (-1))) = H
        have hH3 : H 3 = nI (dq_mask t) := by rw [← hH]; exact hh3
        have hHh : ∀ p, p < 4 → H p = nI (dq_hn X p) ∧ dq_hn X p < 512 := by
          intro p hp
          refine ⟨?_, hn_lt X p⟩
          rcases (by omega : p = 0 ∨ p = 1 ∨ p = 2 ∨ p = 3) with e | e | e | e
          · subst e; rw [hxx.1, ← hH]; rfl
          · subst e; rw [hxx.2.1, ← hH]; rfl
          · subst e; rw [hxx.2.2.1, ← hH, ← er]; rfl
          · subst e; rw [hmX]; exact hH3
        have hpc : pcN two ≤ 9 := cntN_le _ _
        have hag := m_agreesAll (d := d) (vT := vT) (aS := aS) (aH := aH) (vM := vM) (aN := aN) (vS := vS) (aX := aX) (vL := vL) (vP := vP) (vW := vW) (aR := aR) (vR := vR) (aD := H) (vF := lf) (aW := lw) (aI := li) (aQ := lp) (aL := aL) (vB := vB) (h := dq_hn X) hc hw hHh
        -- with the answer
        have jn : ∀ b : Bool, b = (dq_is2 two && goQf cl w X) → P 125 [some (.ref 0), some (.int wi), some (.int (bI cts)), some (.int n), some (.int (nI t)), some (.int (nI r)), some (.int (nI one)), some (.int (nI two)), none] [.int (bI b)] ((rfM vT aS aH vM aN vS aX vL vP vW aR vR H lf lw li lp aL vB)) := by
          intro b hb
          refine hP _ _ _ _ ?_; (conv => whnf)
          cases b with
          | false =>
            have hL : gI vF aW aI aQ cts (goQf cl w) (L ++ (bif dq_is2 two then [X] else [])) lf lw li lp ∧ n = nI ((L ++ (bif dq_is2 two then [X] else [])).countP (goQf cl w)) := by
              cases hq2 : dq_is2 two with
              | false => exact ⟨by rw [show (bif false then [X] else []) = ([] : List Nat) from rfl, List.append_nil]; exact hI, by rw [show (bif false then [X] else []) = ([] : List Nat) from rfl, List.append_nil]; exact hn⟩
              | true =>
                rw [hq2, Bool.true_and] at hb
                exact ⟨gI_no hI hb.symm, by show n = nI ((L ++ [X]).countP _); rw [cntP_snoc, ← hb]; exact hn⟩
            refine b1 0 rfl (by omega) (fun _ => ?_) (fun (q : ¬ 0 = 0) => by omega)
            refine hP _ _ _ _ ?_; (conv => whnf)
            refine hP _ _ _ _ ?_; (conv => whnf)
            refine b1 0 rfl (by omega) (fun _ => ?_) (fun (q : ¬ 0 = 0) => by omega)
            exact tail H lf lw li lp _ _ rfl hH3 hL.1 (by rw [← hL.2]; exact Int32.add_zero n)
          | true =>
            have hb' := hb.symm
            rw [Bool.and_eq_true] at hb'
            have hn' : n + nI 1 = nI ((L ++ [X]).countP (goQf cl w)) := by rw [cntP_snoc, hb'.2, hn, nI_add]; rfl
            refine b1 1 rfl (by omega) (fun (q : 1 = 0) => by omega) (fun _ => ?_); (conv => whnf)
            refine hP _ _ _ _ ?_; (conv => whnf)
            refine b1 1 rfl (by omega) (fun (q : 1 = 0) => by omega) (fun _ => ?_); (conv => whnf)
            cases cts with
            | false =>
              refine b1 0 rfl (by omega) (fun _ => ?_) (fun (q : ¬ 0 = 0) => by omega)
              exact tail H lf lw li lp _ (L ++ [X]) (by rw [hb'.1]; rfl) hH3 hI hn'
            | true =>
              refine b1 1 rfl (by omega) (fun (q : 1 = 0) => by omega) (fun _ => ?_); (conv => whnf)
              refine ⟨Nat.le_of_ble_eq_true rfl, rfl, ?_⟩; (conv => whnf)
              refine Or.inl ⟨_, _, m_countsDeal (d := d + 1) (vT := vT) (aS := aS) (aH := aH) (vM := vM) (aN := aN) (vS := vS) (aX := aX) (vL := vL) (vP := vP) (vW := vW) (aR := aR) (vR := vR) (aD := H) (vF := lf) (aW := lw) (aI := li) (aQ := lp) (aL := aL) (vB := vB) ht hHh, ?_⟩
              exact tail H _ _ _ _ _ (L ++ [X]) (by rw [hb'.1]; rfl) hH3 (gI_yes hI ht hmX hb'.2) hn'
        have f124 : (dq_is2 two && goQf cl w X) = false → P 124 [some (.ref 0), some (.int wi), some (.int (bI cts)), some (.int n), some (.int (nI t)), some (.int (nI r)), some (.int (nI one)), some (.int (nI two)), none] [] ((rfM vT aS aH vM aN vS aX vL vP vW aR vR H lf lw li lp aL vB)) := by
          intro q
          refine hP _ _ _ _ ?_; (conv => whnf)
          exact jn false q.symm
        refine b2 (pcN two) 2 rfl rfl (by omega) (by omega) (fun (q : ¬ pcN two = 2) => ?_) (fun (q : ¬ ¬ pcN two = 2) => ?_)
        · exact f124 (by rw [c2, nbf q]; rfl)
        · (conv => whnf)
          refine ⟨Nat.le_of_ble_eq_true rfl, rfl, ?_⟩; (conv => whnf)
          refine Or.inl ⟨_, _, hag, ?_⟩; (conv => whnf)
          have c2' : dq_is2 two = true := by rw [c2]; exact nbt (Decidable.of_not_not q)
          cases hb2 : goQf cl w X with
          | false =>
            have hb3 : allBut cl (dq_hn X) w cl.length = false := hb2
            refine b1 0 (by rw [hb3]; rfl) (by omega) (fun _ => ?_) (fun (q : ¬ 0 = 0) => by omega)
            exact f124 (by rw [hb2, Bool.and_false])
          | true =>
            have hb3 : allBut cl (dq_hn X) w cl.length = true := hb2
            refine b1 1 (by rw [hb3]; rfl) (by omega) (fun (q : 1 = 0) => by omega) (fun _ => ?_); (conv => whnf)
            exact jn true (by rw [hb2, c2']; rfl)
  -- over the first hands
  have mid : ∀ (t r : Nat), t < 27 → r = 511 - dq_mask t → ∀ (k one : Nat) (hd : IA) (lf : Int32) (lw li lp : IA) (L : List Nat) (n x : Int32), one < k → x = nI one → (∀ y ∈ dq_sub r k one, gk1 r y = true) → hd 3 = nI (dq_mask t) → gI vF aW aI aQ cts (goQf cl w) L lf lw li lp → n = nI (L.countP (goQf cl w)) →
      (∀ (hd' : IA) (lf' : Int32) (lw' li' lp' : IA) (n' : Int32), gI vF aW aI aQ cts (goQf cl w) (L ++ gL1 r k one) lf' lw' li' lp' → n' = nI ((L ++ gL1 r k one).countP (goQf cl w)) → P 184 [some (.ref 0), some (.int wi), some (.int (bI cts)), some (.int n'), some (.int (nI t)), none, none, none, none] [] ((rfM vT aS aH vM aN vS aX vL vP vW aR vR hd' lf' lw' li' lp' aL vB))) →
      P 41 [some (.ref 0), some (.int wi), some (.int (bI cts)), some (.int n), some (.int (nI t)), some (.int (nI r)), some (.int x), none, none] [] ((rfM vT aS aH vM aN vS aX vL vP vW aR vR hd lf lw li lp aL vB)) := by
    intro t r ht hr k
    induction k with
    | zero => intro one _ _ _ _ _ _ _ _ hk; omega
    | succ k ih =>
      intro one hd lf lw li lp L n x hk hx hy hh3 hI hn hex
      subst hx
      by_cases h0 : one = 0
      · subst h0
        have e : gL1 r (k + 1) 0 = [] := rfl
        rw [e, List.append_nil] at hex
        refine hP _ _ _ _ ?_; (conv => whnf)
        refine b1 0 rfl (by omega) (fun _ => ?_) (fun (q : ¬ 0 ≤ 0) => by omega)
        exact hex _ _ _ _ _ _ hI hn
      · have h0 : 0 < one := by omega
        have hs := sub_s r k one h0
        have g1 := hy one (by rw [hs]; exact List.mem_cons_self)
        have hy2 : ∀ y ∈ dq_sub r k ((one - 1) &&& r), gk1 r y = true := fun y q => hy y (by rw [hs]; exact List.mem_cons_of_mem _ q)
        have g1' := g1
        unfold gk1 at g1'
        rw [Bool.and_eq_true, Bool.and_eq_true, Bool.and_eq_true, Bool.and_eq_true, Bool.and_eq_true] at g1'
        obtain ⟨⟨⟨⟨⟨a1, a2⟩, a3⟩, a4⟩, a5⟩, a6⟩ := g1'
        have a1 := Nat.eq_of_beq_eq_true a1
        have a2 := eq_of_beq a2
        have a3 : one < 512 := Nat.le_of_ble_eq_true a3
        have en : nI one - nI 1 &&& nI r = nI ((one - 1) &&& r) := by rw [pk_sub (by omega), nI_and]
        have ef : nI r &&& (nI one ^^^ cst (-1)) = nI (r - one) := by rw [cm1, nI_xor, nI_and, a1]
        have tail : ∀ (hd' : IA) (lf' : Int32) (lw' li' lp' : IA) (n' : Int32) (L' : List Nat), L' = L ++ (bif dq_is2 one then gL2 r one 512 (r - one) else []) → hd' 3 = nI (dq_mask t) → gI vF aW aI aQ cts (goQf cl w) L' lf' lw' li' lp' → n' = nI (L'.countP (goQf cl w)) →
            P 172 [some (.ref 0), some (.int wi), some (.int (bI cts)), some (.int n'), some (.int (nI t)), some (.int (nI r)), some (.int (nI one)), none, none] [] ((rfM vT aS aH vM aN vS aX vL vP vW aR vR hd' lf' lw' li' lp' aL vB)) := by
          intro hd' lf' lw' li' lp' n' L' hL' q3 qI qn
          refine hP _ _ _ _ ?_; (conv => whnf)
          refine ih ((one - 1) &&& r) hd' lf' lw' li' lp' L' n' _ (sub_lt h0 hk) en hy2 q3 qI qn ?_
          intro hd2 lf2 lw2 li2 lp2 n2 rI rn
          refine hex hd2 lf2 lw2 li2 lp2 n2 ?_ ?_
          · rw [gL1_s h0, ← List.append_assoc, ← hL']; exact rI
          · rw [gL1_s h0, ← List.append_assoc, ← hL']; exact rn
        have hpc : pcN one ≤ 9 := cntN_le _ _
        refine hP _ _ _ _ ?_; (conv => whnf)
        refine b1 one rfl (by omega) (fun (q : one ≤ 0) => by omega) (fun _ => ?_); (conv => whnf)
        show P 55 [some (.ref 0), some (.int wi), some (.int (bI cts)), some (.int n), some (.int (nI t)), some (.int (nI r)), some (.int (nI one)), some (.int (nI r &&& (nI one ^^^ cst (-1)))), none] [] _
        rw [ef]
        cases h2 : dq_is2 one with
        | true =>
          refine inn t r one ht hr g1 h2 512 (r - one) hd lf lw li lp L n _ (by omega) rfl (fun y q => List.all_eq_true.mp a5 y q) hh3 hI hn ?_
          intro hd' lf' lw' li' lp' n' r3 rI rn
          exact tail hd' lf' lw' li' lp' n' _ (by rw [h2]; rfl) r3 rI rn
        | false =>
          have hL' : L = L ++ (bif dq_is2 one then gL2 r one 512 (r - one) else []) := by rw [h2]; exact (List.append_nil L).symm
          refine hP _ _ _ _ ?_; (conv => whnf)
          refine b1 (r - one) rfl (by omega) (fun _ => ?_) (fun _ => ?_)
          · exact tail hd lf lw li lp n L hL' hh3 hI hn
          · (conv => whnf)
            refine ⟨Nat.le_of_ble_eq_true rfl, rfl, ?_⟩; (conv => whnf)
            refine Or.inl ⟨_, _, Cl_s (m_bits a3), ?_⟩; (conv => whnf)
            refine b2 (pcN one) 2 rfl rfl (by omega) (by omega) (fun _ => ?_) (fun (q : ¬ ¬ pcN one = 2) => ?_)
            · exact tail hd lf lw li lp n L hL' hh3 hI hn
            · rw [h2] at a2
              rw [nbt (Decidable.of_not_not q)] at a2
              cases a2
  -- over the triples
  have out : ∀ (k t : Nat) (hd : IA) (lf : Int32) (lw li lp : IA) (n x : Int32) (L : List Nat), t + k = 27 → x = nI t → L = (List.range t).flatMap (fun t => dq_2of (511 - dq_mask t)) → gI vF aW aI aQ cts (goQf cl w) L lf lw li lp → n = nI (L.countP (goQf cl w)) →
      P 5 [some (.ref 0), some (.int wi), some (.int (bI cts)), some (.int n), some (.int x), none, none, none, none] [] ((rfM vT aS aH vM aN vS aX vL vP vW aR vR hd lf lw li lp aL vB)) := by
    intro k
    induction k with
    | zero =>
      intro t hd lf lw li lp n x L ht hx hL hI hn
      have ht : t = 27 := ht
      subst ht
      refine hP _ _ _ _ ?_; (conv => whnf)
      refine b2 27 27 hx rfl (by omega) (by omega) (fun _ => ?_) (fun (q : ¬ 27 ≤ 27) => by omega)
      refine hP _ _ _ _ ?_; (conv => whnf)
      have hL : L = dq_2 := hL
      subst hL
      exact ⟨rfl, ⟨.int, rfl, rfl⟩, ⟨by rw [hn], hd, lf, lw, li, lp, hI, rfl⟩⟩
    | succ k ih =>
      intro t hd lf lw li lp n x L ht hx hL hI hn
      subst hx
      have ht27 : t < 27 := by omega
      have hm := mask_lt ht27
      have g0 := List.all_eq_true.mp gk_all t (List.mem_range.mpr ht27)
      unfold gk0 at g0
      rw [Bool.and_eq_true, Bool.and_eq_true, Bool.and_eq_true] at g0
      obtain ⟨⟨⟨a1, a2⟩, a3⟩, a4⟩ := g0
      have a1 := Nat.eq_of_beq_eq_true a1
      have a2 := Nat.eq_of_beq_eq_true a2
      have a4 := dq_same_eq _ _ a4
      have er : cst 511 &&& (nI (dq_mask t) ^^^ cst (-1)) = nI (511 - dq_mask t) := by
        rw [cm1, nI_xor, show cst 511 = nI 511 from rfl, nI_and, a1]
      have e2 : dq_2of (511 - dq_mask t) = gL1 (511 - dq_mask t) 512 (511 - dq_mask t) := by
        unfold dq_2of gL1
        rw [a4]
        refine flat_congr _ (fun one ho => ?_)
        have g1 := List.all_eq_true.mp a3 one ho
        unfold gk1 at g1
        rw [Bool.and_eq_true] at g1
        unfold dq_two gL2
        rw [dq_same_eq _ _ g1.2]
      refine hP _ _ _ _ ?_; (conv => whnf)
      refine b2 t 27 rfl rfl (by omega) (by omega) (fun (q : 27 ≤ t) => by omega) (fun _ => ?_); (conv => whnf)
      refine ⟨Nat.le_of_ble_eq_true rfl, rfl, ?_⟩; (conv => whnf)
      refine Or.inl ⟨_, _, Cl_s (m_maskOf ht27), ?_⟩; (conv => whnf)
      refine ⟨vi (n := 3) rfl (by decide) (by decide), ?_⟩; (conv => whnf)
      refine ⟨vi (n := 3) rfl (by decide) (by decide), ?_⟩; (conv => whnf)
      have eH : upd hd (cst 3).toNatClampNeg (nI (dq_mask t)) (cst 3).toNatClampNeg = nI (dq_mask t) := upd_eq _ _ _
      show P 41 [some (.ref 0), some (.int wi), some (.int (bI cts)), some (.int n), some (.int (nI t)), some (.int (cst 511 &&& (upd hd (cst 3).toNatClampNeg (nI (dq_mask t)) (cst 3).toNatClampNeg ^^^ cst (-1)))), some (.int (cst 511 &&& (upd hd (cst 3).toNatClampNeg (nI (dq_mask t)) (cst 3).toNatClampNeg ^^^ cst (-1)))), none, none] [] _
      rw [eH, er]
      refine mid t (511 - dq_mask t) ht27 rfl 512 (511 - dq_mask t) (upd hd (cst 3).toNatClampNeg (nI (dq_mask t))) lf lw li lp L n _ (by omega) rfl (fun y q => List.all_eq_true.mp a3 y q) eH hI hn ?_
      intro hd' lf' lw' li' lp' n' rI rn
      refine hP _ _ _ _ ?_; (conv => whnf)
      refine ih (t + 1) hd' lf' lw' li' lp' n' _ _ (by omega) (nI_1 t) ?_ rI rn
      rw [hL, ← e2, List.range_succ, List.flatMap_append]
      show _ = _ ++ (_ ++ [])
      rw [List.append_nil]
  exact out 27 0 aD vF aW aI aQ _ _ [] rfl rfl rfl h0 rfl
/-- how many deals agree with all clues but one -/
def goN (cl : List rl_C) (w : Nat) : Nat := dq_D.countP (goQf cl w)
theorem go2 (q : Nat → Bool) : dq_2.countP q = dq_D.countP q := cnt_perm dq_perm2 q
theorem m_goesF (hc : clS aS cl) (hw : (wi = cst (-1) ∧ w = 20) ∨ (wi = nI w ∧ w < 20)) : ∃ hd, Cl (d + 4) kX6_goes [.ref 0, .int wi, .int (nI 0)] ((rfM vT aS aH vM aN vS aX vL vP vW aR vR aD vF aW aI aQ aL vB)) (rV (nI (goN cl w))) ((rfM vT aS aH vM aN vS aX vL vP vW aR vR hd vF aW aI aQ aL vB)) := by
  obtain ⟨r, N, ⟨rfl, hd, lf, lw, li, lp, ⟨rfl, rfl, rfl, rfl⟩, rfl⟩, h⟩ := m_goes0 (d := d) (cts := false) hc hw ⟨rfl, rfl, rfl, rfl⟩
  refine ⟨hd, ?_⟩
  unfold goN
  rw [← go2]
  exact h
end M4
