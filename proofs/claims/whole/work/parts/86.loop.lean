/-! the law's loop -/
theorem tsw_cons {P : Nat → Prop} {pc : Nat} {x : Int} {o : Int} {r : List Int} {v : Int} (h : P ((pc : Int) + o).toNat) (t : tsw P pc x r (v + 1)) : tsw P pc x (o :: r) v := ⟨fun _ => h, t⟩
theorem gt_iff {sn j : Nat} (hsn : sn ≤ 2560) (hj : j ≤ 3000) : nI sn - nI 5 < nI j ↔ sn < j + 5 := by
  rw [Int32.lt_iff_toInt_lt, nI_toInt (by omega)]
  have e : (nI sn - nI 5).toInt = (sn : Int) - 5 := by
    rw [Int32.toInt_sub, nI_toInt (by omega), nI_toInt (by omega)]
    exact Int.bmod_eq_of_le (by omega) (by omega)
  rw [e]
  omega
theorem law_loop {sn : Nat} {sx : Nat → Int32} {P : Nat → LK} (hsn : sn ≤ 2560) (hP : LCl sn sx P) : ∀ (n j t : Nat) (l5 l6 l7 l8 : Option Value) (M : Mem) (A : AS), t ≤ j → sn ≤ 5 * j + n → 5 * j ≤ sn → LJ M A A → P 23 t (LHd (5 * j) l5 l6 l7 l8) [] M := by
  intro n
  induction n using Nat.strongRecOn with
  | _ n ih =>
    intro j t l5 l6 l7 l8 M A ht hn hj hI
    have hj9 : j ≤ 512 := by omega
    refine hP _ _ _ _ _ ?_; (conv => whnf)
    refine ⟨rfl, ?_⟩; (conv => whnf)
    refine ⟨fun _ => ?_, fun z => ?_⟩
    · refine hP _ _ _ _ _ ?_; (conv => whnf)
      exact ⟨by omega, rfl⟩
    · have z : ¬ nI sn - nI 5 < nI (5 * j) := z
      rw [gt_iff hsn (by omega)] at z
      have hv : ∀ c, c < 5 → vp_in (nI (5 * j) + nI c) sn := fun c hc => vi (n := 5 * j + c) (nI_add _ _) (by omega) (by omega)
      have hv0 : vp_in (nI (5 * j)) sn := vi (n := 5 * j) rfl (by omega) (by omega)
      have h1 := hv 1 (by decide)
      have h2 := hv 2 (by decide)
      have h3 := hv 3 (by decide)
      have h4 := hv 4 (by decide)
      have ht6 : t < 600 := by omega
      have hnx : LNx P (5 * j) t := by
        intro m5 m6 m7 m8 t' M' A' ht' hI'
        refine hP _ _ _ _ _ ?_; (conv => whnf)
        have e : nI (5 * j) + cst 5 = nI (5 * (j + 1)) := nI_add (5 * j) 5
        show P 23 t' [some (.ref 99), some (.ref 0), some (.ref 49), some (.ref 60), some (.int (nI (5 * j) + cst 5)), m5, m6, m7, m8] [] M'
        rw [e]
        exact ih (n - 5) (by omega) (j + 1) t' m5 m6 m7 m8 M' A' (by omega) (by omega) (by omega) hI'
      (conv => whnf)
      refine ⟨rfl, hv0, ?_⟩; (conv => whnf)
      refine ⟨fun _ => hnx _ _ _ _ _ _ _ (Nat.le_succ t) hI, ?_⟩
      refine tsw_cons (k_exchange hP hI ht6 h1 h2 h3 h4 hnx) ?_
      refine tsw_cons (k_noteHas hP hI ht6 h1 h2 h3 h4 hnx) ?_
      refine tsw_cons (k_noteLacks hP hI ht6 h1 h2 h3 h4 hnx) ?_
      refine tsw_cons (k_noteShows hP hI ht6 h1 h2 h3 h4 hnx) ?_
      refine tsw_cons (k_dropClue hP hI ht6 h1 h2 h3 h4 hnx) ?_
      refine tsw_cons (k_dropAll hP hI ht6 h1 h2 h3 h4 hnx) ?_
      refine tsw_cons (k_ask hP hI ht6 h1 h2 h3 h4 hnx) ?_
      refine tsw_cons (k_look hP hI ht6 h1 h2 h3 h4 hnx) ?_
      refine tsw_cons (k_accuse hP hI ht6 h1 h2 h3 h4 hnx) ?_
      refine tsw_cons (k_append hP hI ht6 h1 h2 h3 h4 hnx) ?_
      refine tsw_cons (k_clearBuffer hP hI ht6 h1 h2 h3 h4 hnx) ?_
      refine tsw_cons (k_firstError hP hI ht6 h1 h2 h3 h4 hnx) ?_
      refine tsw_cons (k_work hP hI ht6 h1 h2 h3 h4 hnx) ?_
      refine tsw_cons (k_hasStopped hP hI ht6 h1 h2 h3 h4 hnx) ?_
      refine tsw_cons (k_stoppedPart hP hI ht6 h1 h2 h3 h4 hnx) ?_
      refine tsw_cons (k_whyStopped hP hI ht6 h1 h2 h3 h4 hnx) ?_
      refine tsw_cons (k_undo hP hI ht6 h1 h2 h3 h4 hnx) ?_
      refine tsw_cons (k_keep hP hI ht6 h1 h2 h3 h4 hnx) ?_
      refine tsw_cons (k_restore hP hI ht6 h1 h2 h3 h4 hnx) ?_
      refine tsw_cons (k_savedStates hP hI ht6 h1 h2 h3 h4 hnx) ?_
      refine tsw_cons (k_truePlace hP hI ht6 h1 h2 h3 h4 hnx) ?_
      refine tsw_cons (k_trueEnvelope hP hI ht6 h1 h2 h3 h4 hnx) ?_
      refine tsw_cons (k_clues hP hI ht6 h1 h2 h3 h4 hnx) ?_
      refine tsw_cons (k_kindOf hP hI ht6 h1 h2 h3 h4 hnx) ?_
      refine tsw_cons (k_playerOf hP hI ht6 h1 h2 h3 h4 hnx) ?_
      refine tsw_cons (k_cardsOf hP hI ht6 h1 h2 h3 h4 hnx) ?_
      refine tsw_cons (k_isTrue hP hI ht6 h1 h2 h3 h4 hnx) ?_
      refine tsw_cons (k_untrueClues hP hI ht6 h1 h2 h3 h4 hnx) ?_
      refine tsw_cons (k_deals hP hI ht6 h1 h2 h3 h4 hnx) ?_
      refine tsw_cons (k_dealsByHands hP hI ht6 h1 h2 h3 h4 hnx) ?_
      refine tsw_cons (k_dealsWith hP hI ht6 h1 h2 h3 h4 hnx) ?_
      refine tsw_cons (k_mayBe hP hI ht6 h1 h2 h3 h4 hnx) ?_
      refine tsw_cons (k_certainPlace hP hI ht6 h1 h2 h3 h4 hnx) ?_
      refine tsw_cons (k_certainCards hP hI ht6 h1 h2 h3 h4 hnx) ?_
      refine tsw_cons (k_isBroken hP hI ht6 h1 h2 h3 h4 hnx) ?_
      refine tsw_cons (k_mayBeByRules hP hI ht6 h1 h2 h3 h4 hnx) ?_
      refine tsw_cons (k_placeByRules hP hI ht6 h1 h2 h3 h4 hnx) ?_
      refine tsw_cons (k_crossedOff hP hI ht6 h1 h2 h3 h4 hnx) ?_
      refine tsw_cons (k_hiddenCrosses hP hI ht6 h1 h2 h3 h4 hnx) ?_
      refine tsw_cons (k_envelopeDeals hP hI ht6 h1 h2 h3 h4 hnx) ?_
      refine tsw_cons (k_envelopes hP hI ht6 h1 h2 h3 h4 hnx) ?_
      refine tsw_cons (k_bestAccusation hP hI ht6 h1 h2 h3 h4 hnx) ?_
      refine tsw_cons (k_isSolved hP hI ht6 h1 h2 h3 h4 hnx) ?_
      refine tsw_cons (k_dealsIfPassed hP hI ht6 h1 h2 h3 h4 hnx) ?_
      refine tsw_cons (k_leftBy hP hI ht6 h1 h2 h3 h4 hnx) ?_
      refine tsw_cons (k_bestQuestion hP hI ht6 h1 h2 h3 h4 hnx) ?_
      refine tsw_cons (k_dealsWithout hP hI ht6 h1 h2 h3 h4 hnx) ?_
      refine tsw_cons (k_idleClues hP hI ht6 h1 h2 h3 h4 hnx) ?_
      refine tsw_cons (k_chance hP hI ht6 h1 h2 h3 h4 hnx) ?_
      refine tsw_cons (k_digest hP hI ht6 h1 h2 h3 h4 hnx) ?_
      exact trivial
theorem law_run {sn : Nat} {sx : Nat → Int32} (hsn : sn ≤ 2560) {M : Mem} {A : AS} (hI : LJ M A A) : LRun lawR sn sx 23 0 (LHd 0 none none none none) [] M :=
  fun P hP => law_loop hsn hP sn 0 0 none none none none M A (Nat.le_refl 0) (by omega) (by omega) hI
