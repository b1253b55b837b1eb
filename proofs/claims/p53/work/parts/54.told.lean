/-! p53: the law's low and told -/
theorem nI_self (x : Int32) : x = nI x.toBitVec.toNat := by
  unfold nI
  apply Int32.toBitVec_inj.mp
  show x.toBitVec = BitVec.ofNat 32 x.toBitVec.toNat
  rw [BitVec.ofNat_toNat, BitVec.setWidth_eq]
theorem and31 (v : Int32) : (v &&& Int32.ofNat 2147483647).toBitVec.toNat < 2 ^ 31 := by
  show (v.toBitVec &&& (Int32.ofNat 2147483647).toBitVec).toNat < 2 ^ 31
  rw [BitVec.toNat_and]
  exact Nat.lt_of_le_of_lt Nat.and_le_right (by decide)
def lw (v : Int32) (n : Nat) : Nat := (v &&& Int32.ofNat 2147483647).toBitVec.toNat % n
theorem lw_lt (v : Int32) {n : Nat} (h : 0 < n) : lw v n < n := Nat.mod_lt _ h
theorem s_low {d n : Nat} {v : Int32} (h0 : 0 < n) (hn : n < 2 ^ 31) : Cl (d + 1) kL_low [.int v, .int (nI n)] [] (rV (nI (lw v n))) [] := by
  have e : (v &&& Int32.ofNat 2147483647) - (v &&& Int32.ofNat 2147483647) / nI n * nI n = nI (lw v n) := by
    have h1 := and31 v
    unfold lw
    generalize hy : v &&& Int32.ofNat 2147483647 = y at *
    conv => lhs; rw [nI_self y]
    exact pk_rem h1 h0 hn
  refine Cl_go e_L_low (Nat.le_of_ble_eq_true rfl) rfl ?_; intro P hP; refine hP _ _ _ _ ?_; (conv => whnf)
  refine ⟨fun q => ?_, ?_⟩
  · have := (nI_eq hn (by decide)).mp (show nI n = nI 0 from q)
    omega
  · (conv => whnf)
    exact ⟨rfl, ⟨.int, rfl, rfl⟩, rI (e), rfl⟩
theorem rL {x y : Int64} (h : x = y) : (Sum.inl (some (Value.long x)) : Res) = .inl (some (.long y)) := by rw [h]
def k31 : Int64 := Int64.ofNat 31
/-- what told answers, of a state -/
def td1 (a : SA) : Int64 := k31 * (k31 * Int64.ofNat 3 + (nI a.1.length).toInt64) + (nI (ntr (hq a.2.1 3) 9)).toInt64
def td2 (a : SA) : Nat → Int64
  | 0 => td1 a
  | n + 1 => k31 * td2 a n + (nI (a.2.1 n)).toInt64
def td3 (a : SA) : Nat → Int64
  | 0 => td2 a 9
  | n + 1 => k31 * (k31 * (k31 * td3 a n + (nI (clG a n).1).toInt64) + (plI (clG a n)).toInt64) + (nI (clG a n).2.2).toInt64
def tdS (a : SA) : Int32 := bif Nat.beq a.2.2.2 0 then nI 0 else cst 10 * (cst 1 + nI a.2.2.1) + nI a.2.2.2
def tdF (a : SA) : Int64 := k31 * td3 a a.1.length + (tdS a).toInt64
section TOLD
variable {d : Nat} {M : Mem} {A : AS}
theorem s_told (hM : CR M A) : ∃ M', Cl (d + 16) kL_told [.ref 0] M (rJ (tdF A.1)) M' ∧ CR M' A := by
  suffices hh : ∃ r M', (r = rJ (tdF A.1) ∧ CR M' A) ∧ Cl (d + 16) kL_told [.ref 0] M r M' by
    obtain ⟨r, M', ⟨rfl, h1⟩, h2⟩ := hh
    exact ⟨M', h2, h1⟩
  have hn := (CR_okA hM).1
  have hlen : ∀ {N : Mem}, CR N A → N.length = M.length := fun h => (CR_len h).trans (CR_len hM).symm
  have hne : ∃ r M', (r = rJ (tdF A.1) ∧ CR M' A) := ⟨_, M, rfl, hM⟩
  obtain ⟨now, snap, rows, r, buf, rd, D, H, R, rfl, hr⟩ := hM; have hM := CR_of hr
  refine Cl_goQ e_L_told rfl (Nat.le_of_ble_eq_true rfl) (fun r M' q => hlen q.2) (hne) ?_; intro P hP; refine hP _ _ _ _ ?_; (conv => whnf)
  have h134 : ∀ (y : Int64) (x : Int32) (N : Mem), y = k31 * td3 A.1 A.1.1.length → x = tdS A.1 → CR N A → P 134 [none, none, none, none] [.int x, .long y] N := by
    intro y x N hy hx hN
    refine hP _ _ _ _ ?_; (conv => whnf)
    exact ⟨rfl, rfl, rL (by rw [hy, hx]; rfl), hN⟩
  have lp2 : ∀ (j i : Nat) (x : Int32) (y : Int64) (N : Mem), x = nI i → i + j = A.1.1.length → y = td3 A.1 i → CR N A → P 55 [some (.ref 0), some (.long y), none, some (.int x)] [] N := by
    intro j
    induction j with
    | zero =>
      intro i x y N hx hi hy hN
      obtain ⟨now, snap, rows, r, buf, rd, D, H, R, rfl, hr⟩ := hN; have hM := CR_of hr
      have hi : i = A.1.1.length := hi
      subst hi
      refine hP _ _ _ _ ?_; (conv => whnf)
      refine ⟨Nat.le_of_ble_eq_true rfl, rfl, ?_⟩; (conv => whnf); obtain ⟨_, hc, now, snap, rows, r, buf, rd, D, H, R, rfl, hr⟩ := t_clues (d := d) hM; have hM := CR_of hr; refine Or.inl ⟨_, _, hc, ?_⟩; (conv => whnf)
      refine b2 A.1.1.length A.1.1.length hx rfl (by omega) (by omega) (fun _ => ?_) (fun (q : ¬ A.1.1.length ≤ A.1.1.length) => by omega)
      refine hP _ _ _ _ ?_; (conv => whnf)
      have hs := t_stopped (d := d) hM
      have eS : ∀ b, Nat.beq A.1.2.2.2 0 = b → tdS A.1 = bif b then nI 0 else cst 10 * (cst 1 + nI A.1.2.2.1) + nI A.1.2.2.2 := fun b hb => by unfold tdS; rw [hb]
      have ez : k31 * y = k31 * td3 A.1 A.1.1.length := by rw [hy]
      cases hb : Nat.beq A.1.2.2.2 0 with
      | true =>
        rw [hb] at hs
        refine ⟨Nat.le_of_ble_eq_true rfl, rfl, ?_⟩; (conv => whnf); obtain ⟨_, hc, now, snap, rows, r, buf, rd, D, H, R, rfl, hr⟩ := hs; have hM := CR_of hr; refine Or.inl ⟨_, _, hc, ?_⟩; (conv => whnf)
        refine b1 0 rfl (by omega) (fun _ => ?_) (fun (q : ¬ 0 = 0) => by omega)
        refine hP _ _ _ _ ?_; (conv => whnf)
        exact h134 _ _ _ ez (eS true hb).symm hM
      | false =>
        rw [hb] at hs
        have h0 : ¬ A.1.2.2.2 = 0 := fun q => by rw [nbt q] at hb; cases hb
        refine ⟨Nat.le_of_ble_eq_true rfl, rfl, ?_⟩; (conv => whnf); obtain ⟨_, hc, now, snap, rows, r, buf, rd, D, H, R, rfl, hr⟩ := hs; have hM := CR_of hr; refine Or.inl ⟨_, _, hc, ?_⟩; (conv => whnf)
        refine b1 1 rfl (by omega) (fun (q : 1 = 0) => by omega) (fun _ => ?_); (conv => whnf)
        refine ⟨Nat.le_of_ble_eq_true rfl, rfl, ?_⟩; (conv => whnf); obtain ⟨_, hc, now, snap, rows, r, buf, rd, D, H, R, rfl, hr⟩ := t_part (d := d) hM h0; have hM := CR_of hr; refine Or.inl ⟨_, _, hc, ?_⟩; (conv => whnf)
        refine ⟨Nat.le_of_ble_eq_true rfl, rfl, ?_⟩; (conv => whnf); obtain ⟨_, hc, now, snap, rows, r, buf, rd, D, H, R, rfl, hr⟩ := t_why (d := d) hM h0; have hM := CR_of hr; refine Or.inl ⟨_, _, hc, ?_⟩; (conv => whnf)
        exact h134 _ _ _ ez (eS false hb).symm hM
    | succ j ih =>
      intro i x y N hx hi hy hN
      subst hx
      have hk : i < A.1.1.length := by omega
      obtain ⟨now, snap, rows, r, buf, rd, D, H, R, rfl, hr⟩ := hN; have hM := CR_of hr
      refine hP _ _ _ _ ?_; (conv => whnf)
      refine ⟨Nat.le_of_ble_eq_true rfl, rfl, ?_⟩; (conv => whnf); obtain ⟨_, hc, now, snap, rows, r, buf, rd, D, H, R, rfl, hr⟩ := t_clues (d := d) hM; have hM := CR_of hr; refine Or.inl ⟨_, _, hc, ?_⟩; (conv => whnf)
      refine b2 i A.1.1.length rfl rfl (by omega) (by omega) (fun (q : A.1.1.length ≤ i) => by omega) (fun _ => ?_); (conv => whnf)
      refine ⟨Nat.le_of_ble_eq_true rfl, rfl, ?_⟩; (conv => whnf); obtain ⟨_, hc, now, snap, rows, r, buf, rd, D, H, R, rfl, hr⟩ := (t_of (d := d) hM hk).1; have hM := CR_of hr; refine Or.inl ⟨_, _, hc, ?_⟩; (conv => whnf)
      refine ⟨Nat.le_of_ble_eq_true rfl, rfl, ?_⟩; (conv => whnf); obtain ⟨_, hc, now, snap, rows, r, buf, rd, D, H, R, rfl, hr⟩ := (t_of (d := d) hM hk).2.1; have hM := CR_of hr; refine Or.inl ⟨_, _, hc, ?_⟩; (conv => whnf)
      refine ⟨Nat.le_of_ble_eq_true rfl, rfl, ?_⟩; (conv => whnf); obtain ⟨_, hc, now, snap, rows, r, buf, rd, D, H, R, rfl, hr⟩ := (t_of (d := d) hM hk).2.2; have hM := CR_of hr; refine Or.inl ⟨_, _, hc, ?_⟩; (conv => whnf)
      exact ih (i + 1) _ _ _ (nI_1 i) (by omega) (by rw [hy]; rfl) hM
  have lp1 : ∀ (j i : Nat) (x : Int32) (y : Int64) (N : Mem), x = nI i → i + j = 9 → y = td2 A.1 i → CR N A → P 28 [some (.ref 0), some (.long y), none, some (.int x)] [] N := by
    intro j
    induction j with
    | zero =>
      intro i x y N hx hi hy hN
      have hi : i = 9 := hi
      subst hi
      refine hP _ _ _ _ ?_; (conv => whnf)
      refine b2 9 9 hx rfl (by omega) (by omega) (fun _ => ?_) (fun (q : ¬ 9 ≤ 9) => by omega)
      refine hP _ _ _ _ ?_; (conv => whnf)
      exact lp2 A.1.1.length 0 _ _ _ rfl (Nat.zero_add _) hy hN
    | succ j ih =>
      intro i x y N hx hi hy hN
      subst hx
      have hk : i < 9 := by omega
      obtain ⟨now, snap, rows, r, buf, rd, D, H, R, rfl, hr⟩ := hN; have hM := CR_of hr
      refine hP _ _ _ _ ?_; (conv => whnf)
      refine b2 i 9 rfl rfl (by omega) (by omega) (fun (q : 9 ≤ i) => by omega) (fun _ => ?_); (conv => whnf)
      refine ⟨Nat.le_of_ble_eq_true rfl, rfl, ?_⟩; (conv => whnf); obtain ⟨_, hc, now, snap, rows, r, buf, rd, D, H, R, rfl, hr⟩ := t_place (d := d) hM hk; have hM := CR_of hr; refine Or.inl ⟨_, _, hc, ?_⟩; (conv => whnf)
      exact ih (i + 1) _ _ _ (nI_1 i) (by omega) (by rw [hy]; rfl) hM
  refine ⟨Nat.le_of_ble_eq_true rfl, rfl, ?_⟩; (conv => whnf); obtain ⟨_, hc, now, snap, rows, r, buf, rd, D, H, R, rfl, hr⟩ := t_clues (d := d) hM; have hM := CR_of hr; refine Or.inl ⟨_, _, hc, ?_⟩; (conv => whnf)
  refine ⟨Nat.le_of_ble_eq_true rfl, rfl, ?_⟩; (conv => whnf); obtain ⟨_, hc, now, snap, rows, r, buf, rd, D, H, R, rfl, hr⟩ := t_env (d := d) hM; have hM := CR_of hr; refine Or.inl ⟨_, _, hc, ?_⟩; (conv => whnf)
  exact lp1 9 0 _ _ _ rfl rfl rfl hM
end TOLD
