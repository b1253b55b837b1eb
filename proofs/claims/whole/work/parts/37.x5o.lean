/-! the digest: signs mixed -/
def mx (h v : Int64) : Int64 := Int64.ofNat 31 * h + v
def bJ (b : Bool) : Int64 := bif b then Int64.ofNat 1 else Int64.ofNat 0
abbrev rJ (v : Int64) : Res := .inl (some (.long v))
/-- a long answer -/
theorem rL {x y : Int64} (h : x = y) : (Sum.inl (some (Value.long x)) : Res) = rJ y := by rw [h]
/-- what a stop adds -/
def mxStop (h : Int64) (a : SA) : Int64 := if a.2.2.2 = 0 then mx h (bJ false) else mx (mx (mx h (bJ true)) (nI a.2.2.1).toInt64) (nI a.2.2.2).toInt64
def mxAll (h : Int64) (l : List Int64) : Int64 := l.foldl mx h
section X5O
variable {d : Nat} {M : Mem} {A : AS} {now snap : StR} {rows : Nat → StR} {sv : Nat → Option Nat} {buf : IA} {rd : RS} {D : DC} {H : HC} {R : RC} {sc hs ln : Int32}
theorem s_mix (h v : Int64) : Cl (d + 1) kX5_mix [.long h, .long v] M (rJ (mx h v)) M := by
  refine Cl_go e_X5_mix (Nat.le_of_ble_eq_true rfl) rfl ?_; intro P hP; refine hP _ _ _ _ ?_; (conv => whnf)
  exact ⟨rfl, rfl, rfl, rfl⟩
theorem s_mixFlag (h : Int64) (b : Bool) : Cl (d + 2) kX5_mixFlag [.long h, .int (bI b)] M (rJ (mx h (bJ b))) M := by
  refine Cl_go e_X5_mixFlag (Nat.le_of_ble_eq_true rfl) rfl ?_; intro P hP; refine hP _ _ _ _ ?_; (conv => whnf)
  cases b with
  | true =>
    refine b1 1 rfl (by omega) (fun (q : 1 = 0) => by omega) (fun _ => ?_); (conv => whnf)
    refine hP _ _ _ _ ?_; (conv => whnf)
    refine ⟨Nat.le_of_ble_eq_true rfl, rfl, ?_⟩; (conv => whnf)
    refine Or.inl ⟨_, _, s_mix h (bJ true), ?_⟩; (conv => whnf)
    exact ⟨rfl, rfl, rfl, rfl⟩
  | false =>
    refine b1 0 rfl (by omega) (fun _ => ?_) (fun (q : ¬ 0 = 0) => by omega)
    refine hP _ _ _ _ ?_; (conv => whnf)
    refine hP _ _ _ _ ?_; (conv => whnf)
    refine ⟨Nat.le_of_ble_eq_true rfl, rfl, ?_⟩; (conv => whnf)
    refine Or.inl ⟨_, _, s_mix h (bJ false), ?_⟩; (conv => whnf)
    exact ⟨rfl, rfl, rfl, rfl⟩
theorem s_mixBuffer {t : List Nat} (ht : txR buf t) (h : Int64) : Cl (d + 2) kX5_mixBuffer [.ref 0, .long h] (cM now snap rows sv buf rd D H R sc hs (nI t.length)) (rJ (mxAll (mx h (nI t.length).toInt64) (t.map fun c => (nI c).toInt64))) (cM now snap rows sv buf rd D H R sc hs (nI t.length)) := by
  have h60 := ht.1
  have hlt := tx_lt ht
  refine Cl_go e_X5_mixBuffer (Nat.le_of_ble_eq_true rfl) rfl ?_; intro P hP; refine hP _ _ _ _ ?_; (conv => whnf)
  refine ⟨Nat.le_of_ble_eq_true rfl, rfl, ?_⟩; (conv => whnf)
  refine Or.inl ⟨_, _, s_mix h (nI t.length).toInt64, ?_⟩; (conv => whnf)
  have lp : ∀ (l : List Nat) (i : Nat) (x : Int32) (z : Int64), x = nI i → i + l.length = t.length → (∀ k, l[k]? = t[i + k]?) → mxAll z (l.map fun c => (nI c).toInt64) = mxAll (mx h (nI t.length).toInt64) (t.map fun c => (nI c).toInt64) →
      P 13 [some (.ref 0), none, none, some (.long z), none, some (.int x)] [] (cM now snap rows sv buf rd D H R sc hs (nI t.length)) := by
    intro l
    induction l with
    | nil =>
      intro i x z hx hi _ hz
      have hi : i = t.length := hi
      refine hP _ _ _ _ ?_; (conv => whnf)
      refine b2 i t.length hx rfl (by omega) (by omega) (fun _ => ?_) (fun (q : ¬ t.length ≤ i) => by omega)
      refine hP _ _ _ _ ?_; (conv => whnf)
      exact ⟨rfl, rfl, rL hz, rfl⟩
    | cons c l ih =>
      intro i x z hx hi hl hz
      subst hx
      have hil : i < t.length := by rw [← hi]; show i < i + (l.length + 1); omega
      have hc0 : t[i]? = some c := (hl 0).symm
      have hbc := ht.2 i c hc0
      have hb : buf (nI i).toNatClampNeg = nI c := by rw [nI_clamp (by omega)]; exact hbc.1
      refine hP _ _ _ _ ?_; (conv => whnf)
      refine b2 i t.length rfl rfl (by omega) (by omega) (fun (q : t.length ≤ i) => by omega) (fun _ => ?_); (conv => whnf)
      refine b2 i 60 rfl rfl (by omega) (by omega) (fun (q : 60 ≤ i) => by omega) (fun _ => ?_); (conv => whnf)
      refine ⟨vi rfl (show i < 60 by omega) (by decide), ?_⟩; (conv => whnf)
      refine ⟨Nat.le_of_ble_eq_true rfl, rfl, ?_⟩; (conv => whnf)
      refine Or.inl ⟨_, _, s_mix z (buf (nI i).toNatClampNeg).toInt64, ?_⟩; (conv => whnf)
      refine ih (i + 1) _ _ (nI_1 i) ?_ (fun k => ?_) ?_
      · have hi : i + (l.length + 1) = t.length := hi
        omega
      · have := hl (k + 1)
        rw [show i + 1 + k = i + (k + 1) by omega]
        exact this
      · rw [hb, ← hz]; rfl
  exact lp t 0 _ _ rfl (Nat.zero_add _) (fun k => by rw [Nat.zero_add]) rfl
theorem s_stoppedPart {a : SA} (h : stR now a) (h0 : ¬ a.2.2.2 = 0) : Cl (d + 2) kX5_stoppedPart [.ref 0] (cM now snap rows sv buf rd D H R sc hs ln) (rV (nI a.2.2.1)) (cM now snap rows sv buf rd D H R sc hs ln) := by
  refine Cl_go e_X5_stoppedPart (Nat.le_of_ble_eq_true rfl) rfl ?_; intro P hP; refine hP _ _ _ _ ?_; (conv => whnf)
  refine ⟨Nat.le_of_ble_eq_true rfl, rfl, ?_⟩; (conv => whnf)
  refine Or.inl ⟨_, _, s_checkStopped (d := d) h.2.2.2.2.1 (by omega) h.2.2.2.2.2.2.2.2.2, ?_⟩; (conv => whnf)
  exact ⟨rfl, ⟨.int, rfl, rfl⟩, rI (h.2.2.2.1), rfl⟩
theorem s_whyStopped {a : SA} (h : stR now a) (h0 : ¬ a.2.2.2 = 0) : Cl (d + 2) kX5_whyStopped [.ref 0] (cM now snap rows sv buf rd D H R sc hs ln) (rV (nI a.2.2.2)) (cM now snap rows sv buf rd D H R sc hs ln) := by
  refine Cl_go e_X5_whyStopped (Nat.le_of_ble_eq_true rfl) rfl ?_; intro P hP; refine hP _ _ _ _ ?_; (conv => whnf)
  refine ⟨Nat.le_of_ble_eq_true rfl, rfl, ?_⟩; (conv => whnf)
  refine Or.inl ⟨_, _, s_checkStopped (d := d) h.2.2.2.2.1 (by omega) h.2.2.2.2.2.2.2.2.2, ?_⟩; (conv => whnf)
  exact ⟨rfl, ⟨.int, rfl, rfl⟩, rI (h.2.2.2.2.1), rfl⟩
theorem s_mixStop {a : SA} (h : stR now a) (z : Int64) : Cl (d + 3) kX5_mixStop [.ref 0, .long z] (cM now snap rows sv buf rd D H R sc hs ln) (rJ (mxStop z a)) (cM now snap rows sv buf rd D H R sc hs ln) := by
  have hh := s_hasStopped (d := d + 1) (now := now) (snap := snap) (rows := rows) (sv := sv) (buf := buf) (rd := rd) (D := D) (H := H) (R := R) (sc := sc) (hs := hs) (ln := ln) h.2.2.2.2.1 h.2.2.2.2.2.2.2.2.2
  by_cases h0 : a.2.2.2 = 0
  · have e : mxStop z a = mx z (bJ false) := by unfold mxStop; exact if_pos h0
    rw [e]
    rw [nbt h0] at hh
    have hm := s_mixFlag (d := d) (M := cM now snap rows sv buf rd D H R sc hs ln) z false
    generalize mx z (bJ false) = y at *
    refine Cl_go e_X5_mixStop (Nat.le_of_ble_eq_true rfl) rfl ?_; intro P hP; refine hP _ _ _ _ ?_; (conv => whnf)
    refine ⟨Nat.le_of_ble_eq_true rfl, rfl, ?_⟩; (conv => whnf)
    refine Or.inl ⟨_, _, hh, ?_⟩; (conv => whnf)
    refine ⟨Nat.le_of_ble_eq_true rfl, rfl, ?_⟩; (conv => whnf)
    refine Or.inl ⟨_, _, hm, ?_⟩; (conv => whnf)
    refine ⟨Nat.le_of_ble_eq_true rfl, rfl, ?_⟩; (conv => whnf)
    refine Or.inl ⟨_, _, hh, ?_⟩; (conv => whnf)
    refine b1 0 rfl (by omega) (fun _ => ?_) (fun (q : ¬ 0 = 0) => by omega)
    refine hP _ _ _ _ ?_; (conv => whnf)
    exact ⟨rfl, rfl, rfl, rfl⟩
  · have e : mxStop z a = mx (mx (mx z (bJ true)) (nI a.2.2.1).toInt64) (nI a.2.2.2).toInt64 := by unfold mxStop; exact if_neg h0
    rw [e]
    rw [nbf h0, Bool.not_false] at hh
    have hm := s_mixFlag (d := d) (M := cM now snap rows sv buf rd D H R sc hs ln) z true
    have hsp := s_stoppedPart (d := d) (snap := snap) (rows := rows) (sv := sv) (buf := buf) (rd := rd) (D := D) (H := H) (R := R) (sc := sc) (hs := hs) (ln := ln) h h0
    have hwy := s_whyStopped (d := d) (snap := snap) (rows := rows) (sv := sv) (buf := buf) (rd := rd) (D := D) (H := H) (R := R) (sc := sc) (hs := hs) (ln := ln) h h0
    generalize nI a.2.2.1 = pp at *
    generalize nI a.2.2.2 = ww at *
    generalize mx z (bJ true) = y at *
    have hm2 := s_mix (d := d + 1) (M := cM now snap rows sv buf rd D H R sc hs ln) y pp.toInt64
    generalize mx y pp.toInt64 = y2 at *
    have hm3 := s_mix (d := d + 1) (M := cM now snap rows sv buf rd D H R sc hs ln) y2 ww.toInt64
    generalize mx y2 ww.toInt64 = y3 at *
    refine Cl_go e_X5_mixStop (Nat.le_of_ble_eq_true rfl) rfl ?_; intro P hP; refine hP _ _ _ _ ?_; (conv => whnf)
    refine ⟨Nat.le_of_ble_eq_true rfl, rfl, ?_⟩; (conv => whnf)
    refine Or.inl ⟨_, _, hh, ?_⟩; (conv => whnf)
    refine ⟨Nat.le_of_ble_eq_true rfl, rfl, ?_⟩; (conv => whnf)
    refine Or.inl ⟨_, _, hm, ?_⟩; (conv => whnf)
    refine ⟨Nat.le_of_ble_eq_true rfl, rfl, ?_⟩; (conv => whnf)
    refine Or.inl ⟨_, _, hh, ?_⟩; (conv => whnf)
    refine b1 1 rfl (by omega) (fun (q : 1 = 0) => by omega) (fun _ => ?_); (conv => whnf)
    refine ⟨Nat.le_of_ble_eq_true rfl, rfl, ?_⟩; (conv => whnf)
    refine Or.inl ⟨_, _, hsp, ?_⟩; (conv => whnf)
    refine ⟨Nat.le_of_ble_eq_true rfl, rfl, ?_⟩; (conv => whnf)
    refine Or.inl ⟨_, _, hm2, ?_⟩; (conv => whnf)
    refine ⟨Nat.le_of_ble_eq_true rfl, rfl, ?_⟩; (conv => whnf)
    refine Or.inl ⟨_, _, hwy, ?_⟩; (conv => whnf)
    refine ⟨Nat.le_of_ble_eq_true rfl, rfl, ?_⟩; (conv => whnf)
    refine Or.inl ⟨_, _, hm3, ?_⟩
    show P 36 [none, none, none, some (.long y3), none] [] (cM now snap rows sv buf rd D H R sc hs ln)
    refine hP _ _ _ _ ?_; (conv => whnf)
    exact ⟨rfl, rfl, rfl, rfl⟩
end X5O
