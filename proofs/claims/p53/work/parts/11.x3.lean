/-! a state of the class: its cells; the clues that they hold; what its methods do -/
abbrev IA : Type := Nat → Int32
def bI (b : Bool) : Int32 := bif b then nI 1 else nI 0
def cpy (n : Nat) (f g : IA) : IA := fun j => if j < n then g j else f j
theorem cpy_0 (f g : IA) : cpy 0 f g = f := by
  funext j; exact if_neg (Nat.not_lt_zero j)
theorem upd_eq (f : IA) (i : Nat) (x : Int32) : upd f i x i = x := if_pos rfl
theorem upd_ne (f : IA) {i j : Nat} (x : Int32) (h : ¬ j = i) : upd f i x j = f j := if_neg h
theorem cpy_s (i : Nat) (f g : IA) : upd (cpy i f g) i (g i) = cpy (i + 1) f g := by
  funext j
  unfold upd cpy
  by_cases h : j = i
  · rw [if_pos h, if_pos (by omega), h]
  · rw [if_neg h]
    by_cases h2 : j < i
    · rw [if_pos h2, if_pos (by omega)]
    · rw [if_neg h2, if_neg (by omega)]
def rmv (k n : Nat) (f : IA) : IA := fun j => if k ≤ j ∧ j + 1 < n then f (j + 1) else f j
theorem rmv_0 (k : Nat) (f : IA) : rmv k (k + 1) f = f := by
  funext j; exact if_neg (by omega)
theorem rmv_i (k i : Nat) (f : IA) : rmv k i f i = f i := if_neg (by omega)
theorem rmv_s {k i : Nat} (h : k + 1 ≤ i) (f : IA) : upd (rmv k i f) (i - 1) (f i) = rmv k (i + 1) f := by
  funext j
  unfold upd rmv
  by_cases hj : j = i - 1
  · rw [if_pos hj, if_pos (by omega), hj, show i - 1 + 1 = i by omega]
  · rw [if_neg hj]
    by_cases h2 : k ≤ j ∧ j + 1 < i
    · rw [if_pos h2, if_pos (by omega)]
    · rw [if_neg h2, if_neg (by omega)]
def clM (cl : List rl_C) (kd pl cd : IA) : Prop := ∀ (i : Nat) (x : rl_C), cl[i]? = some x → kd i = nI x.1 ∧ pl i = nI x.2.1 ∧ cd i = nI x.2.2
theorem clM_nil (kd pl cd : IA) : clM [] kd pl cd := fun i x h => by cases h
theorem clM_add {cl : List rl_C} {kd pl cd : IA} (h : clM cl kd pl cd) (x : rl_C) : clM (cl ++ [x]) (upd kd cl.length (nI x.1)) (upd pl cl.length (nI x.2.1)) (upd cd cl.length (nI x.2.2)) := by
  intro i y hy
  by_cases hi : i < cl.length
  · rw [List.getElem?_append_left hi] at hy
    have hn : ¬ i = cl.length := by omega
    rw [upd_ne _ _ hn, upd_ne _ _ hn, upd_ne _ _ hn]
    exact h i y hy
  · rw [List.getElem?_append_right (by omega)] at hy
    by_cases hi2 : i = cl.length
    · rw [hi2, Nat.sub_self] at hy
      have hy : x = y := Option.some.inj hy
      subst hy
      rw [hi2, upd_eq, upd_eq, upd_eq]
      exact ⟨rfl, rfl, rfl⟩
    · have h3 : i - cl.length = (i - cl.length - 1) + 1 := by omega
      rw [h3] at hy
      cases hy
theorem clM_rmv {cl : List rl_C} {kd pl cd : IA} (h : clM cl kd pl cd) {k : Nat} (hk : k < cl.length) : clM (cl.eraseIdx k) (rmv k cl.length kd) (rmv k cl.length pl) (rmv k cl.length cd) := by
  intro i y hy
  rw [List.getElem?_eraseIdx] at hy
  unfold rmv
  by_cases hi : i < k
  · rw [if_pos hi] at hy
    rw [if_neg (by omega), if_neg (by omega), if_neg (by omega)]
    exact h i y hy
  · rw [if_neg hi] at hy
    have hl : i + 1 < cl.length := (List.getElem?_eq_some_iff.mp hy).1
    rw [if_pos ⟨by omega, hl⟩, if_pos ⟨by omega, hl⟩, if_pos ⟨by omega, hl⟩]
    exact h (i + 1) y hy
/-- whether a deal agrees with a clue: t: the cards of the clue that lie where it says -/
def agN (x : rl_C) (t : Nat) : Bool :=
  if x.1 = 0 ∨ x.1 = 2 then !Nat.beq t 0
  else if x.1 = 1 ∨ x.1 = 3 then Nat.beq t 0
  else if x.1 = 4 then !Nat.beq t x.2.2
  else Nat.beq t x.2.2
theorem nbt {a b : Nat} (h : a = b) : Nat.beq a b = true := by
  subst h; exact Nat.beq_refl a
theorem nbf {a b : Nat} (h : ¬ a = b) : Nat.beq a b = false := by
  cases hb : Nat.beq a b with
  | false => rfl
  | true => exact absurd (Nat.eq_of_beq_eq_true hb) h
def mS (dl kd pl cd : IA) (cnt prt why : Int32) : Mem := [eO 3 [.ref 1, .ref 2, .ref 3, .ref 4, .int cnt, .int prt, .int why], eI 4 dl, eI 20 kd, eI 20 pl, eI 20 cd]
/-- with another's arrays: (the deal's own is not looked at) -/
def mAg (kd pl cd : IA) (cnt prt why : Int32) (so : IA) : Mem := [eO 3 [.ref 5, .ref 1, .ref 2, .ref 3, .int cnt, .int prt, .int why], eI 20 kd, eI 20 pl, eI 20 cd, eI 4 so]
def mS2 (dl kd pl cd : IA) (cnt prt why : Int32) (dl2 kd2 pl2 cd2 : IA) (cnt2 prt2 why2 : Int32) : Mem :=
  [eO 3 [.ref 1, .ref 2, .ref 3, .ref 4, .int cnt, .int prt, .int why], eI 4 dl, eI 20 kd, eI 20 pl, eI 20 cd, eO 3 [.ref 6, .ref 7, .ref 8, .ref 9, .int cnt2, .int prt2, .int why2], eI 4 dl2, eI 20 kd2, eI 20 pl2, eI 20 cd2]
section X3
variable {d : Nat} {dl kd pl cd so dl2 kd2 pl2 cd2 : IA} {cnt prt why cnt2 prt2 why2 : Int32}
theorem s_agrees {i h : Nat} {x : rl_C} (hi : i < 20) (hx : kd i = nI x.1 ∧ pl i = nI x.2.1 ∧ cd i = nI x.2.2) (ok : x.1 < 6 ∧ x.2.1 < 4 ∧ x.2.2 < 512) (hs : so x.2.1 = nI h) (hh : h < 512) :
    Cl (d + 1) kX3_agrees [.ref 0, .int (nI i), .ref 4] (mAg kd pl cd cnt prt why so) (.inl (some (.int (bI (agN x (h &&& x.2.2)))))) (mAg kd pl cd cnt prt why so) := by
  have e0 : (nI i).toNatClampNeg = i := nI_clamp (by omega)
  have ek : kd (nI i).toNatClampNeg = nI x.1 := by rw [e0]; exact hx.1
  have ep : pl (nI i).toNatClampNeg = nI x.2.1 := by rw [e0]; exact hx.2.1
  have ec : cd (nI i).toNatClampNeg = nI x.2.2 := by rw [e0]; exact hx.2.2
  have es : so (pl (nI i).toNatClampNeg).toNatClampNeg = nI h := by rw [ep, nI_clamp (by omega)]; exact hs
  have et : so (pl (nI i).toNatClampNeg).toNatClampNeg &&& cd (nI i).toNatClampNeg = nI (h &&& x.2.2) := by rw [es, ec, nI_and]
  have hl : h &&& x.2.2 < 512 := Nat.lt_of_le_of_lt Nat.and_le_left hh
  have ez : (kd (nI i).toNatClampNeg).toInt = (x.1 : Int) := by rw [ek]; exact nI_toInt (by omega)
  refine Cl_go e_X3_agrees (Nat.le_of_ble_eq_true rfl) rfl ?_; intro P hP; refine hP _ _ _ _ ?_; conv => whnf
  refine b1 i rfl (by omega) (fun (q : i < 0) => by omega) (fun _ => ?_); conv => whnf
  refine b2 i 20 rfl rfl (by omega) (by omega) (fun (q : 20 ≤ i) => by omega) (fun _ => ?_); conv => whnf
  refine ⟨vi rfl hi (by decide), ?_⟩; conv => whnf
  refine b1 x.2.1 ep (by omega) (fun (q : x.2.1 < 0) => by omega) (fun _ => ?_); conv => whnf
  refine ⟨vi rfl hi (by decide), ?_⟩; conv => whnf
  refine b2 x.2.1 4 ep rfl (by omega) (by omega) (fun _ => ?_) (fun (q : ¬ x.2.1 < 4) => by omega)
  refine hP _ _ _ _ ?_; conv => whnf
  refine ⟨vi rfl hi (by decide), ?_⟩; conv => whnf
  refine ⟨vi ep ok.2.1 (by decide), ?_⟩; conv => whnf
  refine ⟨vi rfl hi (by decide), ?_⟩; conv => whnf
  refine ⟨vi rfl hi (by decide), ?_⟩; conv => whnf
  have k02 : (x.1 = 0 ∨ x.1 = 2) → P 88 [some (.ref 0), some (.int (nI i)), none, some (.int (so (pl (nI i).toNatClampNeg).toNatClampNeg &&& cd (nI i).toNatClampNeg))] [] (mAg kd pl cd cnt prt why so) := by
    intro q
    refine hP _ _ _ _ ?_; conv => whnf
    refine b1 _ et (by omega) (fun (z : h &&& x.2.2 = 0) => ?_) (fun (z : ¬ h &&& x.2.2 = 0) => ?_)
    · refine hP _ _ _ _ ?_; conv => whnf
      refine hP _ _ _ _ ?_; conv => whnf
      exact ⟨rfl, ⟨.boolean, rfl, rfl⟩, rI (by unfold agN; rw [if_pos q, nbt z]; rfl), rfl⟩
    · conv => whnf
      refine hP _ _ _ _ ?_; conv => whnf
      exact ⟨rfl, ⟨.boolean, rfl, rfl⟩, rI (by unfold agN; rw [if_pos q, nbf z]; rfl), rfl⟩
  have k13 : (x.1 = 1 ∨ x.1 = 3) → P 98 [some (.ref 0), some (.int (nI i)), none, some (.int (so (pl (nI i).toNatClampNeg).toNatClampNeg &&& cd (nI i).toNatClampNeg))] [] (mAg kd pl cd cnt prt why so) := by
    intro q
    have q0 : ¬ (x.1 = 0 ∨ x.1 = 2) := by omega
    refine hP _ _ _ _ ?_; conv => whnf
    refine b1 _ et (by omega) (fun (z : ¬ h &&& x.2.2 = 0) => ?_) (fun (z : ¬ ¬ h &&& x.2.2 = 0) => ?_)
    · refine hP _ _ _ _ ?_; conv => whnf
      refine hP _ _ _ _ ?_; conv => whnf
      exact ⟨rfl, ⟨.boolean, rfl, rfl⟩, rI (by unfold agN; rw [if_neg q0, if_pos q, nbf z]; rfl), rfl⟩
    · conv => whnf
      refine hP _ _ _ _ ?_; conv => whnf
      exact ⟨rfl, ⟨.boolean, rfl, rfl⟩, rI (by unfold agN; rw [if_neg q0, if_pos q, nbt (Decidable.of_not_not z)]; rfl), rfl⟩
  refine ⟨fun q => ?_, fun q => ?_, fun q => ?_, fun q => ?_, fun q => ?_, fun q => ?_, trivial⟩
  · have q : (x.1 : Int) < 0 ∨ (4 : Int) < x.1 := by rw [← ez]; exact q
    have q5 : x.1 = 5 := by omega
    refine hP _ _ _ _ ?_; conv => whnf
    refine ⟨vi rfl hi (by decide), ?_⟩; conv => whnf
    refine b2 _ x.2.2 et ec (by omega) (by omega) (fun (z : ¬ h &&& x.2.2 = x.2.2) => ?_) (fun (z : ¬ ¬ h &&& x.2.2 = x.2.2) => ?_)
    · refine hP _ _ _ _ ?_; conv => whnf
      refine hP _ _ _ _ ?_; conv => whnf
      exact ⟨rfl, ⟨.boolean, rfl, rfl⟩, rI (by unfold agN; rw [if_neg (by omega), if_neg (by omega), if_neg (by omega), nbf z]; rfl), rfl⟩
    · conv => whnf
      refine hP _ _ _ _ ?_; conv => whnf
      exact ⟨rfl, ⟨.boolean, rfl, rfl⟩, rI (by unfold agN; rw [if_neg (by omega), if_neg (by omega), if_neg (by omega), nbt (Decidable.of_not_not z)]; rfl), rfl⟩
  · have q : (x.1 : Int) = 0 := by rw [← ez]; exact q
    exact k02 (by omega)
  · have q : (x.1 : Int) = 0 + 1 := by rw [← ez]; exact q
    exact k13 (by omega)
  · have q : (x.1 : Int) = 0 + 1 + 1 := by rw [← ez]; exact q
    exact k02 (by omega)
  · have q : (x.1 : Int) = 0 + 1 + 1 + 1 := by rw [← ez]; exact q
    exact k13 (by omega)
  · have q : (x.1 : Int) = 0 + 1 + 1 + 1 + 1 := by rw [← ez]; exact q
    refine hP _ _ _ _ ?_; conv => whnf
    refine ⟨vi rfl hi (by decide), ?_⟩; conv => whnf
    refine b2 _ x.2.2 et ec (by omega) (by omega) (fun (z : h &&& x.2.2 = x.2.2) => ?_) (fun (z : ¬ h &&& x.2.2 = x.2.2) => ?_)
    · refine hP _ _ _ _ ?_; conv => whnf
      refine hP _ _ _ _ ?_; conv => whnf
      exact ⟨rfl, ⟨.boolean, rfl, rfl⟩, rI (by unfold agN; rw [if_neg (by omega), if_neg (by omega), if_pos (by omega), nbt z]; rfl), rfl⟩
    · conv => whnf
      refine hP _ _ _ _ ?_; conv => whnf
      exact ⟨rfl, ⟨.boolean, rfl, rfl⟩, rI (by unfold agN; rw [if_neg (by omega), if_neg (by omega), if_pos (by omega), nbf z]; rfl), rfl⟩
/-- which clue is the first with which a deal does not agree -/
theorem s_agreesWithAll {cl : List rl_C} {h : Nat → Nat} (hc : clM cl kd pl cd) (hn : cl.length ≤ 20) (ok : ∀ x ∈ cl, x.1 < 6 ∧ x.2.1 < 4 ∧ x.2.2 < 512) (hs : ∀ p, p < 4 → so p = nI (h p) ∧ h p < 512) :
    Cl (d + 2) kX3_agreesWithAll [.ref 0, .ref 4] (mAg kd pl cd (nI cl.length) prt why so) (.inl (some (.int (bI (cl.all (fun x => agN x (h x.2.1 &&& x.2.2))))))) (mAg kd pl cd (nI cl.length) prt why so) := by
  refine Cl_go e_X3_agreesWithAll (Nat.le_of_ble_eq_true rfl) rfl ?_; intro P hP; refine hP _ _ _ _ ?_; conv => whnf
  have lp : ∀ (n i : Nat) (x : Int32), x = nI i → i + n = cl.length → (cl.take i).all (fun x => agN x (h x.2.1 &&& x.2.2)) = true → P 2 [some (.ref 0), some (.ref 4), some (.int x)] [] (mAg kd pl cd (nI cl.length) prt why so) := by
    intro n
    induction n with
    | zero =>
      intro i x hx hi ha
      refine hP _ _ _ _ ?_; conv => whnf
      refine b2 i cl.length hx rfl (by omega) (by omega) (fun _ => ?_) (fun (q : ¬ cl.length ≤ i) => by omega)
      refine hP _ _ _ _ ?_; conv => whnf
      rw [List.take_of_length_le (by omega)] at ha
      exact ⟨rfl, ⟨.boolean, rfl, rfl⟩, rI (by rw [ha]; rfl), rfl⟩
    | succ n ih =>
      intro i x hx hi ha
      subst hx
      have hg : cl[i]? = some cl[i] := List.getElem?_eq_getElem (by omega)
      have hm := ok _ (List.mem_of_getElem? hg)
      have hsp := hs _ hm.2.1
      refine hP _ _ _ _ ?_; conv => whnf
      refine b2 i cl.length rfl rfl (by omega) (by omega) (fun (q : cl.length ≤ i) => by omega) (fun _ => ?_); conv => whnf
      refine ⟨Nat.le_of_ble_eq_true rfl, rfl, ?_⟩; conv => whnf
      refine Or.inl ⟨_, _, s_agrees (by omega) (hc i _ hg) hm hsp.1 hsp.2, ?_⟩; conv => whnf
      cases hb : agN cl[i] (h cl[i].2.1 &&& cl[i].2.2) with
      | true =>
        refine b1 1 rfl (by omega) (fun _ => ?_) (fun (q : ¬ ¬ 1 = 0) => by omega)
        refine hP _ _ _ _ ?_; conv => whnf
        refine ih (i + 1) _ (nI_1 i) (by omega) ?_
        rw [List.take_add_one, hg, List.all_append, ha]
        show (true && (agN cl[i] (h cl[i].2.1 &&& cl[i].2.2) && true)) = true
        rw [hb]; rfl
      | false =>
        refine b1 0 rfl (by omega) (fun (q : ¬ 0 = 0) => by omega) (fun _ => ?_); conv => whnf
        have hal : cl.all (fun x => agN x (h x.2.1 &&& x.2.2)) = false := by
          rw [List.all_eq_false]
          exact ⟨_, List.mem_of_getElem? hg, by rw [hb]; decide⟩
        exact ⟨rfl, ⟨.boolean, rfl, rfl⟩, rI (by rw [hal]; rfl), rfl⟩
  exact lp cl.length 0 _ rfl (by omega) rfl
theorem and_bit (h c : Nat) : h &&& 2 ^ c = bif h.testBit c then 2 ^ c else 0 := by
  apply Nat.eq_of_testBit_eq
  intro i
  rw [Nat.testBit_and, Nat.testBit_two_pow]
  by_cases e : c = i
  · subst e
    cases hb : h.testBit c with
    | true => rw [decide_eq_true rfl]; show (true && true) = (2 ^ c).testBit c; rw [Nat.testBit_two_pow, decide_eq_true rfl]; rfl
    | false => show (false && _) = (0 : Nat).testBit c; rw [Nat.zero_testBit]; rfl
  · rw [decide_eq_false e, Bool.and_false]
    cases hb : h.testBit c with
    | true => show false = (2 ^ c).testBit i; rw [Nat.testBit_two_pow, decide_eq_false e]
    | false => show false = (0 : Nat).testBit i; rw [Nat.zero_testBit]
theorem bit_lt {h c : Nat} (hh : h < 2 ^ 31) : h &&& 2 ^ c < 2 ^ 31 := Nat.lt_of_le_of_lt Nat.and_le_left hh
theorem and_bit_0 {h c : Nat} (q : h &&& 2 ^ c = 0) : h.testBit c = false := by
  rw [and_bit] at q
  cases hb : h.testBit c with
  | false => rfl
  | true => rw [hb] at q; exact absurd q (Nat.ne_of_gt (Nat.two_pow_pos c))
theorem and_bit_1 {h c : Nat} (q : ¬ h &&& 2 ^ c = 0) : h.testBit c = true := by
  cases hb : h.testBit c with
  | true => rfl
  | false => exact absurd (by rw [and_bit, hb]; rfl) q
theorem nI_bit {h c : Nat} (hc : c < 31) : nI h &&& nI 1 <<< (nI c &&& 31) = nI (h &&& 2 ^ c) := by rw [sh_1 hc, nI_and]
theorem s_dealAtFirst : Cl (d + 1) kX3_dealAtFirst [.ref 0] (mS dl kd pl cd cnt prt why) (.inl none) (mS (upd (upd (upd (upd dl 0 (nI 6)) 1 (nI 48)) 2 (nI 384)) 3 (nI 73)) kd pl cd cnt prt why) := by
  refine Cl_go e_X3_dealAtFirst (Nat.le_of_ble_eq_true rfl) rfl ?_; intro P hP; refine hP _ _ _ _ ?_; conv => whnf
  refine ⟨vi (n := 0) rfl (by decide) (by decide), ?_⟩; conv => whnf
  refine ⟨vi (n := 1) rfl (by decide) (by decide), ?_⟩; conv => whnf
  refine ⟨vi (n := 2) rfl (by decide) (by decide), ?_⟩; conv => whnf
  refine ⟨vi (n := 3) rfl (by decide) (by decide), ?_⟩; conv => whnf
  exact ⟨rfl, rfl, rfl, rfl⟩
theorem s_copyFrom : Cl (d + 1) kX3_copyFrom [.ref 0, .ref 5] (mS2 dl kd pl cd cnt prt why dl2 kd2 pl2 cd2 cnt2 prt2 why2) (.inl none) (mS2 (cpy 4 dl dl2) (cpy 20 kd kd2) (cpy 20 pl pl2) (cpy 20 cd cd2) cnt2 prt2 why2 dl2 kd2 pl2 cd2 cnt2 prt2 why2) := by
  refine Cl_go e_X3_copyFrom (Nat.le_of_ble_eq_true rfl) rfl ?_; intro P hP; refine hP _ _ _ _ ?_; conv => whnf
  refine hP _ _ _ _ ?_; conv => whnf
  have l2 : ∀ (n i : Nat) (x : Int32) (N : Mem), x = nI i → i + n = 20 → N = mS2 (cpy 4 dl dl2) (cpy i kd kd2) (cpy i pl pl2) (cpy i cd cd2) cnt prt why dl2 kd2 pl2 cd2 cnt2 prt2 why2 → P 32 [some (.ref 0), some (.ref 5), some (.int x)] [] N := by
    intro n
    induction n with
    | zero =>
      intro i x N hx hi hN
      subst hN
      refine hP _ _ _ _ ?_; conv => whnf
      refine b2 i 20 hx rfl (by omega) (by omega) (fun _ => ?_) (fun (q : ¬ 20 ≤ i) => by omega)
      refine hP _ _ _ _ ?_; conv => whnf
      refine ⟨⟨rfl, rfl⟩, ?_⟩; conv => whnf
      refine ⟨⟨rfl, rfl⟩, ?_⟩; conv => whnf
      refine ⟨⟨rfl, rfl⟩, ?_⟩; conv => whnf
      have hi : i = 20 := hi
      subst hi
      exact ⟨rfl, rfl, rfl, rfl⟩
    | succ n ih =>
      intro i x N hx hi hN
      subst hN
      subst hx
      have e0 : (nI i).toNatClampNeg = i := nI_clamp (by omega)
      refine hP _ _ _ _ ?_; conv => whnf
      refine b2 i 20 rfl rfl (by omega) (by omega) (fun (q : 20 ≤ i) => by omega) (fun _ => ?_); conv => whnf
      refine ⟨vi rfl (show i < 20 by omega) (by decide), ?_⟩; conv => whnf
      refine ⟨vi rfl (show i < 20 by omega) (by decide), ?_⟩; conv => whnf
      refine ⟨vi rfl (show i < 20 by omega) (by decide), ?_⟩; conv => whnf
      refine ⟨vi rfl (show i < 20 by omega) (by decide), ?_⟩; conv => whnf
      refine ⟨vi rfl (show i < 20 by omega) (by decide), ?_⟩; conv => whnf
      refine ⟨vi rfl (show i < 20 by omega) (by decide), ?_⟩; conv => whnf
      refine ih (i + 1) _ _ (nI_1 i) (by omega) ?_
      have ek : upd (cpy i kd kd2) (nI i).toNatClampNeg (kd2 (nI i).toNatClampNeg) = cpy (i + 1) kd kd2 := by rw [e0]; exact cpy_s i kd kd2
      have ep : upd (cpy i pl pl2) (nI i).toNatClampNeg (pl2 (nI i).toNatClampNeg) = cpy (i + 1) pl pl2 := by rw [e0]; exact cpy_s i pl pl2
      have ec : upd (cpy i cd cd2) (nI i).toNatClampNeg (cd2 (nI i).toNatClampNeg) = cpy (i + 1) cd cd2 := by rw [e0]; exact cpy_s i cd cd2
      rw [← ek, ← ep, ← ec]
      rfl
  have l1 : ∀ (n i : Nat) (x : Int32) (N : Mem), x = nI i → i + n = 4 → N = mS2 (cpy i dl dl2) kd pl cd cnt prt why dl2 kd2 pl2 cd2 cnt2 prt2 why2 → P 7 [some (.ref 0), some (.ref 5), some (.int x)] [] N := by
    intro n
    induction n with
    | zero =>
      intro i x N hx hi hN
      subst hN
      refine hP _ _ _ _ ?_; conv => whnf
      refine b2 i 4 hx rfl (by omega) (by omega) (fun _ => ?_) (fun (q : ¬ 4 ≤ i) => by omega)
      refine hP _ _ _ _ ?_; conv => whnf
      have hi : i = 4 := hi
      subst hi
      refine l2 20 0 _ _ rfl rfl ?_
      rw [cpy_0, cpy_0, cpy_0]
    | succ n ih =>
      intro i x N hx hi hN
      subst hN
      subst hx
      have e0 : (nI i).toNatClampNeg = i := nI_clamp (by omega)
      refine hP _ _ _ _ ?_; conv => whnf
      refine b2 i 4 rfl rfl (by omega) (by omega) (fun (q : 4 ≤ i) => by omega) (fun _ => ?_); conv => whnf
      refine ⟨vi rfl (show i < 4 by omega) (by decide), ?_⟩; conv => whnf
      refine ⟨vi rfl (show i < 4 by omega) (by decide), ?_⟩; conv => whnf
      refine ih (i + 1) _ _ (nI_1 i) (by omega) ?_
      have ek : upd (cpy i dl dl2) (nI i).toNatClampNeg (dl2 (nI i).toNatClampNeg) = cpy (i + 1) dl dl2 := by rw [e0]; exact cpy_s i dl dl2
      rw [← ek]
      rfl
  refine l1 4 0 _ _ rfl rfl ?_
  rw [cpy_0]
theorem s_add {n : Nat} {k p c : Int32} (hn : n < 20) : Cl (d + 1) kX3_add [.ref 0, .int k, .int p, .int c] (mS dl kd pl cd (nI n) prt why) (.inl none) (mS dl (upd kd n k) (upd pl n p) (upd cd n c) (nI (n + 1)) prt why) := by
  have e0 : (nI n).toNatClampNeg = n := nI_clamp (by omega)
  refine Cl_go e_X3_add (Nat.le_of_ble_eq_true rfl) rfl ?_; intro P hP; refine hP _ _ _ _ ?_; conv => whnf
  refine b1 n rfl (by omega) (fun (q : n < 0) => by omega) (fun _ => ?_); conv => whnf
  refine b2 n 20 rfl rfl (by omega) (by omega) (fun (q : 20 ≤ n) => by omega) (fun _ => ?_); conv => whnf
  refine ⟨vi rfl hn (by decide), ?_⟩; conv => whnf
  refine ⟨vi rfl hn (by decide), ?_⟩; conv => whnf
  refine ⟨vi rfl hn (by decide), ?_⟩; conv => whnf
  refine ⟨⟨rfl, rfl⟩, ?_⟩; conv => whnf
  refine hP _ _ _ _ ?_; conv => whnf
  refine ⟨rfl, rfl, rfl, ?_⟩
  rw [← nI_1 n, ← e0]
  simp only [e0]
  have e1 : nI (nI n).toNatClampNeg = nI n := by rw [e0]
  rfl
theorem s_remove {n k : Nat} (hk : k < n) (hn : n ≤ 20) : Cl (d + 1) kX3_remove [.ref 0, .int (nI k)] (mS dl kd pl cd (nI n) prt why) (.inl none) (mS dl (rmv k n kd) (rmv k n pl) (rmv k n cd) (nI (n - 1)) prt why) := by
  refine Cl_go e_X3_remove (Nat.le_of_ble_eq_true rfl) rfl ?_; intro P hP; refine hP _ _ _ _ ?_; conv => whnf
  refine b1 k rfl (by omega) (fun (q : k < 0) => by omega) (fun _ => ?_); conv => whnf
  refine b2 k n rfl rfl (by omega) (by omega) (fun _ => ?_) (fun (q : ¬ k < n) => by omega)
  refine hP _ _ _ _ ?_; conv => whnf
  have lp : ∀ (j i : Nat) (x : Int32) (N : Mem), x = nI i → i + j = n → k + 1 ≤ i → N = mS dl (rmv k i kd) (rmv k i pl) (rmv k i cd) (nI n) prt why → P 17 [some (.ref 0), none, some (.int x)] [] N := by
    intro j
    induction j with
    | zero =>
      intro i x N hx hi hk1 hN
      subst hN
      have hi : i = n := hi
      subst hi
      refine hP _ _ _ _ ?_; conv => whnf
      refine b2 i i hx rfl (by omega) (by omega) (fun _ => ?_) (fun (q : ¬ i ≤ i) => by omega)
      refine hP _ _ _ _ ?_; conv => whnf
      refine ⟨⟨rfl, rfl⟩, ?_⟩; conv => whnf
      have e : nI i - cst 1 = nI (i - 1) := show nI i - nI 1 = nI (i - 1) from pk_sub (by omega)
      refine ⟨rfl, rfl, rfl, ?_⟩
      rw [← e]
      rfl
    | succ j ih =>
      intro i x N hx hi hk1 hN
      subst hN
      subst hx
      have e0 : (nI i).toNatClampNeg = i := nI_clamp (by omega)
      have e1 : nI i - cst 1 = nI (i - 1) := show nI i - nI 1 = nI (i - 1) from pk_sub (by omega)
      have e2 : (nI i - cst 1).toNatClampNeg = i - 1 := by rw [e1]; exact nI_clamp (by omega)
      refine hP _ _ _ _ ?_; conv => whnf
      refine b2 i n rfl rfl (by omega) (by omega) (fun (q : n ≤ i) => by omega) (fun _ => ?_); conv => whnf
      refine b2 i 20 rfl rfl (by omega) (by omega) (fun (q : 20 ≤ i) => by omega) (fun _ => ?_); conv => whnf
      refine ⟨vi rfl (show i < 20 by omega) (by decide), ?_⟩; conv => whnf
      refine ⟨vi e1 (show i - 1 < 20 by omega) (by decide), ?_⟩; conv => whnf
      refine ⟨vi rfl (show i < 20 by omega) (by decide), ?_⟩; conv => whnf
      refine ⟨vi e1 (show i - 1 < 20 by omega) (by decide), ?_⟩; conv => whnf
      refine ⟨vi rfl (show i < 20 by omega) (by decide), ?_⟩; conv => whnf
      refine ⟨vi e1 (show i - 1 < 20 by omega) (by decide), ?_⟩; conv => whnf
      refine ih (i + 1) _ _ (nI_1 i) (by omega) (by omega) ?_
      have ef : ∀ f : IA, upd (rmv k i f) (nI i - cst 1).toNatClampNeg (rmv k i f (nI i).toNatClampNeg) = rmv k (i + 1) f := fun f => by rw [e0, e2, rmv_i]; exact rmv_s hk1 f
      rw [← ef kd, ← ef pl, ← ef cd]
      rfl
  have e1 : nI k + cst 1 = nI (k + 1) := nI_1 k
  refine lp (n - (k + 1)) (k + 1) _ _ e1 (by omega) (by omega) ?_
  rw [rmv_0, rmv_0, rmv_0]
theorem s_handOf {p h a : Nat} (hp : p < 3) (hd : dl p = nI h) : Cl (d + 1) kX3_handOf [.ref 0, .int (nI p), .int (nI a)] (mS dl kd pl cd cnt prt why) (.inl (some (.int (nI (h &&& a))))) (mS dl kd pl cd cnt prt why) := by
  refine Cl_go e_X3_handOf (Nat.le_of_ble_eq_true rfl) rfl ?_; intro P hP; refine hP _ _ _ _ ?_; conv => whnf
  refine b1 p rfl (by omega) (fun (q : p < 0) => by omega) (fun _ => ?_); conv => whnf
  refine b2 p 3 rfl rfl (by omega) (by omega) (fun (q : 3 ≤ p) => by omega) (fun _ => ?_); conv => whnf
  refine ⟨vi rfl (show p < 4 by omega) (by decide), ?_⟩; conv => whnf
  refine hP _ _ _ _ ?_; conv => whnf
  have e : dl (nI p).toNatClampNeg &&& nI a = nI (h &&& a) := by rw [nI_clamp (by omega), hd, nI_and]
  exact ⟨rfl, ⟨.int, rfl, rfl⟩, rI (e), rfl⟩
theorem s_addAnswer {n p h a : Nat} (hp : p < 3) (hd : dl p = nI h) (hh : h < 512) (hn : n < 20) : Cl (d + 2) kX3_addAnswer [.ref 0, .int (nI p), .int (nI a)] (mS dl kd pl cd (nI n) prt why)
    (.inl (some (.int (bI (!Nat.beq (h &&& a) 0))))) (mS dl (upd kd n (nI (bif Nat.beq (h &&& a) 0 then 3 else 2))) (upd pl n (nI p)) (upd cd n (nI a)) (nI (n + 1)) prt why) := by
  have hl : h &&& a < 512 := Nat.lt_of_le_of_lt Nat.and_le_left hh
  refine Cl_go e_X3_addAnswer (Nat.le_of_ble_eq_true rfl) rfl ?_; intro P hP; refine hP _ _ _ _ ?_; conv => whnf
  refine ⟨Nat.le_of_ble_eq_true rfl, rfl, ?_⟩; conv => whnf
  refine Or.inl ⟨_, _, s_handOf hp hd, ?_⟩; conv => whnf
  refine b1 _ rfl (by omega) (fun (q : h &&& a = 0) => ?_) (fun (q : ¬ h &&& a = 0) => ?_)
  · rw [nbt q] at hP
    refine hP _ _ _ _ ?_; conv => whnf
    refine hP _ _ _ _ ?_; conv => whnf
    refine b1 0 rfl (by omega) (fun _ => ?_) (fun (q : ¬ 0 = 0) => by omega)
    refine hP _ _ _ _ ?_; conv => whnf
    refine hP _ _ _ _ ?_; conv => whnf
    refine ⟨Nat.le_of_ble_eq_true rfl, rfl, ?_⟩; conv => whnf
    refine Or.inl ⟨_, _, s_add hn, ?_⟩; conv => whnf
    exact ⟨rfl, ⟨.boolean, rfl, rfl⟩, rfl, rfl⟩
  · rw [nbf q] at hP
    conv => whnf
    refine hP _ _ _ _ ?_; conv => whnf
    refine b1 1 rfl (by omega) (fun (q : 1 = 0) => by omega) (fun _ => ?_); conv => whnf
    refine hP _ _ _ _ ?_; conv => whnf
    refine ⟨Nat.le_of_ble_eq_true rfl, rfl, ?_⟩; conv => whnf
    refine Or.inl ⟨_, _, s_add hn, ?_⟩; conv => whnf
    exact ⟨rfl, ⟨.boolean, rfl, rfl⟩, rfl, rfl⟩
theorem s_addVerdict {n h a : Nat} (hd : dl 3 = nI h) (hh : h < 512) (ha : a < 512) (hn : n < 20) : Cl (d + 2) kX3_addVerdict [.ref 0, .int (nI a)] (mS dl kd pl cd (nI n) prt why)
    (.inl (some (.int (bI (Nat.beq h a))))) (mS dl (upd kd n (nI (bif Nat.beq h a then 5 else 4))) (upd pl n (nI 3)) (upd cd n (nI a)) (nI (n + 1)) prt why) := by
  refine Cl_go e_X3_addVerdict (Nat.le_of_ble_eq_true rfl) rfl ?_; intro P hP; refine hP _ _ _ _ ?_; conv => whnf
  refine ⟨vi (n := 3) rfl (by decide) (by decide), ?_⟩; conv => whnf
  refine b2 h a (by rw [← hd]; rfl) rfl (by omega) (by omega) (fun (q : ¬ h = a) => ?_) (fun (q : ¬ ¬ h = a) => ?_)
  · rw [nbf q] at hP
    refine hP _ _ _ _ ?_; conv => whnf
    refine hP _ _ _ _ ?_; conv => whnf
    refine b1 0 rfl (by omega) (fun _ => ?_) (fun (q : ¬ 0 = 0) => by omega)
    refine hP _ _ _ _ ?_; conv => whnf
    refine hP _ _ _ _ ?_; conv => whnf
    refine ⟨Nat.le_of_ble_eq_true rfl, rfl, ?_⟩; conv => whnf
    refine Or.inl ⟨_, _, s_add hn, ?_⟩; conv => whnf
    exact ⟨rfl, ⟨.boolean, rfl, rfl⟩, rfl, rfl⟩
  · rw [nbt (Decidable.of_not_not q)] at hP
    conv => whnf
    refine hP _ _ _ _ ?_; conv => whnf
    refine b1 1 rfl (by omega) (fun (q : 1 = 0) => by omega) (fun _ => ?_); conv => whnf
    refine hP _ _ _ _ ?_; conv => whnf
    refine ⟨Nat.le_of_ble_eq_true rfl, rfl, ?_⟩; conv => whnf
    refine Or.inl ⟨_, _, s_add hn, ?_⟩; conv => whnf
    exact ⟨rfl, ⟨.boolean, rfl, rfl⟩, rfl, rfl⟩
theorem s_addSight0 {n p h a : Nat} (hp : p < 3) (hd : dl p = nI h) (hz : h &&& a = 0) (hn : n < 20) : Cl (d + 2) kX3_addSight [.ref 0, .int (nI p), .int (nI a)] (mS dl kd pl cd (nI n) prt why)
    (.inl (some (.int (cst (-1))))) (mS dl (upd kd n (nI 3)) (upd pl n (nI p)) (upd cd n (nI a)) (nI (n + 1)) prt why) := by
  refine Cl_go e_X3_addSight (Nat.le_of_ble_eq_true rfl) rfl ?_; intro P hP; refine hP _ _ _ _ ?_; conv => whnf
  refine ⟨Nat.le_of_ble_eq_true rfl, rfl, ?_⟩; conv => whnf
  refine Or.inl ⟨_, _, s_handOf hp hd, ?_⟩; conv => whnf
  have lp : ∀ (j i : Nat) (x y : Int32), x = nI i → y = nI 0 → i + j = 9 → P 10 [some (.ref 0), some (.int (nI p)), some (.int (nI a)), some (.int y), some (.int x)] [] (mS dl kd pl cd (nI n) prt why) := by
    intro j
    induction j with
    | zero =>
      intro i x y hx hy hi
      refine hP _ _ _ _ ?_; conv => whnf
      refine b2 i 9 hx rfl (by omega) (by omega) (fun _ => ?_) (fun (q : ¬ 9 ≤ i) => by omega)
      refine hP _ _ _ _ ?_; conv => whnf
      refine ⟨Nat.le_of_ble_eq_true rfl, rfl, ?_⟩; conv => whnf
      refine Or.inl ⟨_, _, s_add hn, ?_⟩; conv => whnf
      exact ⟨rfl, ⟨.int, rfl, rfl⟩, rfl, rfl⟩
    | succ j ih =>
      intro i x y hx hy hi
      subst hx
      subst hy
      refine hP _ _ _ _ ?_; conv => whnf
      refine b2 i 9 rfl rfl (by omega) (by omega) (fun (q : 9 ≤ i) => by omega) (fun _ => ?_); conv => whnf
      have e : nI 0 &&& nI 1 <<< (nI i &&& 31) = nI 0 := by rw [nI_bit (show i < 31 by omega), Nat.zero_and]
      refine b1 0 e (by omega) (fun _ => ?_) (fun (q : ¬ 0 = 0) => by omega)
      refine hP _ _ _ _ ?_; conv => whnf
      exact ih (i + 1) _ _ (nI_1 i) rfl (by omega)
  exact lp 9 0 _ _ rfl (by rw [hz]) rfl
theorem s_addSight1 {n p h a c : Nat} (hp : p < 3) (hd : dl p = nI h) (hh : h < 512) (hc : c < 9) (hb : (h &&& a).testBit c = true) (hlow : ∀ i, i < c → (h &&& a).testBit i = false) (hn : n < 20) : Cl (d + 2) kX3_addSight [.ref 0, .int (nI p), .int (nI a)] (mS dl kd pl cd (nI n) prt why)
    (.inl (some (.int (nI c)))) (mS dl (upd kd n (nI 0)) (upd pl n (nI p)) (upd cd n (nI (2 ^ c))) (nI (n + 1)) prt why) := by
  have hl : h &&& a < 512 := Nat.lt_of_le_of_lt Nat.and_le_left hh
  refine Cl_go e_X3_addSight (Nat.le_of_ble_eq_true rfl) rfl ?_; intro P hP; refine hP _ _ _ _ ?_; conv => whnf
  refine ⟨Nat.le_of_ble_eq_true rfl, rfl, ?_⟩; conv => whnf
  refine Or.inl ⟨_, _, s_handOf hp hd, ?_⟩; conv => whnf
  have lp : ∀ (j i : Nat) (x : Int32), x = nI i → i + j = c → P 10 [some (.ref 0), some (.int (nI p)), some (.int (nI a)), some (.int (nI (h &&& a))), some (.int x)] [] (mS dl kd pl cd (nI n) prt why) := by
    intro j
    induction j with
    | zero =>
      intro i x hx hi
      have hi : i = c := hi
      subst hi
      subst hx
      refine hP _ _ _ _ ?_; conv => whnf
      refine b2 i 9 rfl rfl (by omega) (by omega) (fun (q : 9 ≤ i) => by omega) (fun _ => ?_); conv => whnf
      refine b1 _ (nI_bit (by omega)) (bit_lt (by omega)) (fun (q : (h &&& a) &&& 2 ^ i = 0) => ?_) (fun _ => ?_)
      · rw [and_bit_0 q] at hb; cases hb
      · conv => whnf
        refine ⟨Nat.le_of_ble_eq_true rfl, rfl, ?_⟩; conv => whnf
        refine Or.inl ⟨_, mS dl (upd kd n (nI 0)) (upd pl n (nI p)) (upd cd n (nI (2 ^ i))) (nI (n + 1)) prt why, by rw [← sh_1 (show i < 31 by omega)]; exact s_add hn, ?_⟩; conv => whnf
        exact ⟨rfl, ⟨.int, rfl, rfl⟩, rfl, rfl⟩
    | succ j ih =>
      intro i x hx hi
      subst hx
      refine hP _ _ _ _ ?_; conv => whnf
      refine b2 i 9 rfl rfl (by omega) (by omega) (fun (q : 9 ≤ i) => by omega) (fun _ => ?_); conv => whnf
      refine b1 _ (nI_bit (by omega)) (bit_lt (by omega)) (fun _ => ?_) (fun (q : ¬ (h &&& a) &&& 2 ^ i = 0) => ?_)
      · refine hP _ _ _ _ ?_; conv => whnf
        exact ih (i + 1) _ (nI_1 i) (by omega)
      · have h3 := and_bit_1 q
        rw [hlow i (by omega)] at h3; cases h3
  exact lp c 0 _ rfl (by omega)
theorem s_placeOf {c p : Nat} {h : Nat → Nat} (hc : c < 9) (hp : p < 4) (hd : ∀ i, i < 4 → dl i = nI (h i) ∧ h i < 512) (hb : (h p).testBit c = true) (hlow : ∀ i, i < p → (h i).testBit c = false) : Cl (d + 1) kX3_placeOf [.ref 0, .int (nI c)] (mS dl kd pl cd cnt prt why)
    (.inl (some (.int (nI p)))) (mS dl kd pl cd cnt prt why) := by
  refine Cl_go e_X3_placeOf (Nat.le_of_ble_eq_true rfl) rfl ?_; intro P hP; refine hP _ _ _ _ ?_; conv => whnf
  have lp : ∀ (j i : Nat) (x : Int32), x = nI i → i + j = p → P 2 [some (.ref 0), some (.int (nI c)), some (.int x)] [] (mS dl kd pl cd cnt prt why) := by
    intro j
    induction j with
    | zero =>
      intro i x hx hi
      have hi : i = p := hi
      subst hi
      subst hx
      have e : dl (nI i).toNatClampNeg &&& nI 1 <<< (nI c &&& 31) = nI (h i &&& 2 ^ c) := by rw [nI_clamp (by omega), (hd i hp).1]; exact nI_bit (by omega)
      have := (hd i hp).2
      refine hP _ _ _ _ ?_; conv => whnf
      refine b2 i 4 rfl rfl (by omega) (by omega) (fun (q : 4 ≤ i) => by omega) (fun _ => ?_); conv => whnf
      refine ⟨vi rfl (show i < 4 by omega) (by decide), ?_⟩; conv => whnf
      refine b1 _ e (bit_lt (by omega)) (fun (q : h i &&& 2 ^ c = 0) => ?_) (fun _ => ?_)
      · rw [and_bit_0 q] at hb; cases hb
      · conv => whnf
        exact ⟨rfl, ⟨.int, rfl, rfl⟩, rfl, rfl⟩
    | succ j ih =>
      intro i x hx hi
      subst hx
      have e : dl (nI i).toNatClampNeg &&& nI 1 <<< (nI c &&& 31) = nI (h i &&& 2 ^ c) := by rw [nI_clamp (by omega), (hd i (by omega)).1]; exact nI_bit (by omega)
      have := (hd i (by omega)).2
      refine hP _ _ _ _ ?_; conv => whnf
      refine b2 i 4 rfl rfl (by omega) (by omega) (fun (q : 4 ≤ i) => by omega) (fun _ => ?_); conv => whnf
      refine ⟨vi rfl (show i < 4 by omega) (by decide), ?_⟩; conv => whnf
      refine b1 _ e (bit_lt (by omega)) (fun _ => ?_) (fun (q : ¬ h i &&& 2 ^ c = 0) => ?_)
      · refine hP _ _ _ _ ?_; conv => whnf
        exact ih (i + 1) _ (nI_1 i) (by omega)
      · have h3 := and_bit_1 q
        rw [hlow i (by omega)] at h3; cases h3
  exact lp p 0 _ rfl (by omega)
end X3
