/-! p53: the law's act: it does one thing, or none; what it does rests on the state alone -/
theorem tsw_mk {P : Nat → Prop} {pc : Nat} {x : Int} : ∀ (l : List Int) (v : Int) (j : Nat) (o : Int), l[j]? = some o → x = v + j → P ((pc : Int) + o).toNat → tsw P pc x l v := by
  intro l
  induction l with
  | nil => intro v j o h _ _; cases h
  | cons a r ih =>
    intro v j o h hx hp
    cases j with
    | zero =>
      have h1 : a = o := Option.some.inj h
      subst h1
      refine ⟨fun _ => hp, tsw_none r (v + 1) (by omega)⟩
    | succ j => exact ⟨fun e => absurd e (by omega), ih (v + 1) j o h (by omega) hp⟩
theorem tsw_hi {P : Nat → Prop} {pc : Nat} {x : Int} : ∀ (l : List Int) (v : Int), v + l.length ≤ x → tsw P pc x l v := by
  intro l
  induction l with
  | nil => intro v _; trivial
  | cons a r ih =>
    intro v h
    have h : v + ((r.length + 1 : Nat) : Int) ≤ x := h
    exact ⟨fun e => absurd e (by omega), ih (v + 1) (by omega)⟩
/-- one clue more, one less, two cards exchanged -/
theorem okM_add {a : SA} (h : okM a) {y : rl_C} (hy : y.1 = 0 → ∃ c, c < 9 ∧ y.2.2 = 2 ^ c) : okM (a.1 ++ [y], a.2) := by
  refine ⟨fun x hx h0 => ?_, h.2⟩
  rcases List.mem_append.mp hx with h1 | h1
  · exact h.1 x h1 h0
  · rcases List.mem_cons.mp h1 with h2 | h2
    · rw [h2] at h0 ⊢; exact hy h0
    · cases h2
theorem okM_drop {a : SA} (h : okM a) (k : Nat) : okM (a.1.eraseIdx k, a.2) := ⟨fun x hx h0 => h.1 x (List.mem_of_mem_eraseIdx hx) h0, h.2⟩
theorem okM_none {a : SA} (h : okM a) : okM ([], a.2) := ⟨fun x hx _ => (by cases hx), h.2⟩
theorem ex2_all : (List.range 512).all (fun x => !Nat.beq (pcN x) 2 || (List.range 9).all (fun c => (List.range 9).all (fun o => Nat.beq (pcN (exN x c o)) 2))) = true := by decide +kernel
theorem ex2 {x c o : Nat} (hx : x < 512) (hc : c < 9) (ho : o < 9) (h : pcN x = 2) : pcN (exN x c o) = 2 := by
  have k := List.all_eq_true.mp ex2_all x (List.mem_range.mpr hx)
  rw [nbt h] at k
  exact Nat.eq_of_beq_eq_true (List.all_eq_true.mp (List.all_eq_true.mp k c (List.mem_range.mpr hc)) o (List.mem_range.mpr ho))
theorem ex3_all : (List.range 27).all (fun t => (List.range 9).all (fun c => (List.range 9).all (fun o => !((dq_mask t).testBit c == (dq_mask t).testBit o || Nat.beq (c / 3) (o / 3)) || itr (exN (dq_mask t) c o) 3))) = true := by decide +kernel
theorem okM_exch {a : SA} (h : okM a) {c o : Nat} (hc : c < 9) (ho : o < 9) : okM (a.1, swp a.2.1 c o, a.2.2) := ⟨h.1, fun p hp => by
  show pcN (hq (swp a.2.1 c o) p) = 2
  rw [← exN_hq hc ho]
  exact ex2 (hq_lt _ _) hc ho (h.2 p hp)⟩
theorem itr_exch {q : NA} (h : okQ q) {c o : Nat} (hc : c < 9) (ho : o < 9) (hh : Nat.beq (q c) 3 = Nat.beq (q o) 3 ∨ c / 3 = o / 3) : itr (hq (swp q c o) 3) 3 = true := by
  obtain ⟨t, ht, et⟩ := itr_mask (hq_lt q 3) h.2
  rw [← exN_hq hc ho]
  have b1 := hq_bit q 3 hc
  have b2 := hq_bit q 3 ho
  rw [et] at b1 b2 ⊢
  have k := List.all_eq_true.mp (List.all_eq_true.mp (List.all_eq_true.mp ex3_all t (List.mem_range.mpr ht)) c (List.mem_range.mpr hc)) o (List.mem_range.mpr ho)
  have e : ((dq_mask t).testBit c == (dq_mask t).testBit o || Nat.beq (c / 3) (o / 3)) = true := by
    rw [b1, b2, Bool.or_eq_true]
    rcases hh with z | z
    · left; rw [z]; exact beq_self_eq_true _
    · right; exact nbt z
  rw [e] at k
  exact k
theorem trN_lt {s t r : Nat} (hs : s < 3) (ht : 3 ≤ t ∧ t < 6) (hr : 6 ≤ r ∧ r < 9) : trN s t r < 27 := by
  unfold trN; omega
/-- the targets of act -/
def tgt : Nat → Nat
  | 0 => 144 | 1 => 154 | 2 => 154 | 3 => 164 | 4 => 178 | 5 => 178 | 6 => 178 | 7 => 192 | 8 => 192 | 9 => 206 | 10 => 206 | 11 => 219 | 12 => 219 | 13 => 245
  | _ => 263
abbrev sh (x : Int32) (n : Int) : Int32 := x >>> (cst n &&& 31)
abbrev gP (v : Int32) : Nat := lw (sh v 4) 3
abbrev gC (x : Int32) : Nat := lw x 9
abbrev gA (x : Int32) : Nat := lw x 3
abbrev gB (x : Int32) : Nat := lw (sh x 3) 3
abbrev gE (x : Int32) : Nat := lw (sh x 6) 3
abbrev gO (x : Int32) : Nat := lw (sh x 4) 9
abbrev LAc (x : Int32) (p c a b e : Nat) : Lcs := [some (.ref 0), none, some (.int x), some (.int (nI p)), some (.int (nI c)), some (.int (nI a)), some (.int (cst 3 + nI b)), some (.int (cst 6 + nI e)), none, none]
abbrev PCa (d : Nat) (Q : Res → Mem → Prop) (P : Nat → Lcs → List Value → Mem → Prop) : Prop := ∀ (pc : Nat) (L : Lcs) (S : List Value) (N : Mem), wI (Cl d) Q (some .boolean) P (fnd pgL_act pc) L S N → P pc L S N
section ACT
variable {d : Nat} {M : Mem} {A : AS} {Q : Res → Mem → Prop} {P : Nat → Lcs → List Value → Mem → Prop} {v x : Int32} {p c a b e : Nat}
theorem a_sw (hP : PCa (d + 15) Q P) (K : Nat) (hK : K < 16) (y : Int32) (hy : y = nI K) (N : Mem) (h : P (tgt K) (LAc x p c a b e) [] N) : P 71 [some (.ref 0), none, some (.int x), some (.int (nI p)), some (.int (nI c)), some (.int (nI a)), some (.int (cst 3 + nI b)), some (.int (cst 6 + nI e)), some (.int y), none] [] N := by
  subst hy
  refine hP _ _ _ _ ?_; (conv => whnf)
  have h16 : K = 0 ∨ K = 1 ∨ K = 2 ∨ K = 3 ∨ K = 4 ∨ K = 5 ∨ K = 6 ∨ K = 7 ∨ K = 8 ∨ K = 9 ∨ K = 10 ∨ K = 11 ∨ K = 12 ∨ K = 13 ∨ K = 14 ∨ K = 15 := by omega
  rcases h16 with rfl | rfl | rfl | rfl | rfl | rfl | rfl | rfl | rfl | rfl | rfl | rfl | rfl | rfl | rfl | rfl
  · exact ⟨fun q => absurd q (by decide), tsw_mk _ _ 0 _ rfl (by decide) h⟩
  · exact ⟨fun q => absurd q (by decide), tsw_mk _ _ 1 _ rfl (by decide) h⟩
  · exact ⟨fun q => absurd q (by decide), tsw_mk _ _ 2 _ rfl (by decide) h⟩
  · exact ⟨fun q => absurd q (by decide), tsw_mk _ _ 3 _ rfl (by decide) h⟩
  · exact ⟨fun q => absurd q (by decide), tsw_mk _ _ 4 _ rfl (by decide) h⟩
  · exact ⟨fun q => absurd q (by decide), tsw_mk _ _ 5 _ rfl (by decide) h⟩
  · exact ⟨fun q => absurd q (by decide), tsw_mk _ _ 6 _ rfl (by decide) h⟩
  · exact ⟨fun q => absurd q (by decide), tsw_mk _ _ 7 _ rfl (by decide) h⟩
  · exact ⟨fun q => absurd q (by decide), tsw_mk _ _ 8 _ rfl (by decide) h⟩
  · exact ⟨fun q => absurd q (by decide), tsw_mk _ _ 9 _ rfl (by decide) h⟩
  · exact ⟨fun q => absurd q (by decide), tsw_mk _ _ 10 _ rfl (by decide) h⟩
  · exact ⟨fun q => absurd q (by decide), tsw_mk _ _ 11 _ rfl (by decide) h⟩
  · exact ⟨fun q => absurd q (by decide), tsw_mk _ _ 12 _ rfl (by decide) h⟩
  · exact ⟨fun q => absurd q (by decide), tsw_mk _ _ 13 _ rfl (by decide) h⟩
  · exact ⟨fun _ => h, tsw_hi _ _ (by decide)⟩
  · exact ⟨fun _ => h, tsw_hi _ _ (by decide)⟩
theorem a_pre (hP : PCa (d + 15) Q P) (hM : CR M A) (K : Nat) (hK : K < 16) (hv : v &&& cst 15 = nI K)
    (h20 : K < 11 → A.1.1.length = 20 → ∀ N, CR N A → Q (rV (nI 0)) N) (h : (K < 11 → A.1.1.length < 20) → ∀ N, CR N A → P (tgt K) (LAc x (gP v) (gC x) (gA x) (gB x) (gE x)) [] N) : P 0 (entL 10 [.ref 0, .int v, .int x]) [] M := by
  have hn := (CR_okA hM).1
  obtain ⟨now, snap, rows, r, buf, rd, D, H, R, rfl, hr⟩ := hM; have hM := CR_of hr
  refine hP _ _ _ _ ?_; (conv => whnf)
  refine ⟨Nat.le_of_ble_eq_true rfl, rfl, ?_⟩; (conv => whnf); refine Or.inl ⟨_, _, Cl_s (s_low (n := 3) (by decide) (by decide)), ?_⟩; (conv => whnf)
  refine ⟨Nat.le_of_ble_eq_true rfl, rfl, ?_⟩; (conv => whnf); refine Or.inl ⟨_, _, Cl_s (s_low (n := 9) (by decide) (by decide)), ?_⟩; (conv => whnf)
  refine ⟨Nat.le_of_ble_eq_true rfl, rfl, ?_⟩; (conv => whnf); refine Or.inl ⟨_, _, Cl_s (s_low (n := 3) (by decide) (by decide)), ?_⟩; (conv => whnf)
  refine ⟨Nat.le_of_ble_eq_true rfl, rfl, ?_⟩; (conv => whnf); refine Or.inl ⟨_, _, Cl_s (s_low (n := 3) (by decide) (by decide)), ?_⟩; (conv => whnf)
  refine ⟨Nat.le_of_ble_eq_true rfl, rfl, ?_⟩; (conv => whnf); refine Or.inl ⟨_, _, Cl_s (s_low (n := 3) (by decide) (by decide)), ?_⟩; (conv => whnf)
  refine b2 K 11 hv rfl (by omega) (by omega) (fun (q : 11 ≤ K) => ?_) (fun (q : ¬ 11 ≤ K) => ?_)
  · exact a_sw hP K hK _ hv _ (h (fun z => by omega) _ hM)
  · (conv => whnf)
    refine ⟨Nat.le_of_ble_eq_true rfl, rfl, ?_⟩; (conv => whnf); obtain ⟨_, hc, now, snap, rows, r, buf, rd, D, H, R, rfl, hr⟩ := t_clues (d := d) hM; have hM := CR_of hr; refine Or.inl ⟨_, _, hc, ?_⟩; (conv => whnf)
    refine b2 A.1.1.length 20 rfl rfl (by omega) (by omega) (fun (q2 : ¬ A.1.1.length = 20) => ?_) (fun (q2 : ¬ ¬ A.1.1.length = 20) => ?_)
    · exact a_sw hP K hK _ hv _ (h (fun _ => by omega) _ hM)
    · (conv => whnf)
      exact ⟨rfl, ⟨.boolean, rfl, rfl⟩, h20 (by omega) (Decidable.of_not_not q2) _ hM⟩
theorem a_has (hP : PCa (d + 15) Q P) {a2 : SA} (hc : ∀ N, CR N A → ∃ y, cl9 d kX5_noteHas [.ref 0, .int (nI p), .int (nI c)] N (rV y) (chg A a2)) (hQ : ∀ N, CR N (chg A a2) → Q (rV (nI 1)) N) : ∀ N, CR N A → P 144 (LAc x p c a b e) [] N := by
  intro N hN
  obtain ⟨y, hy⟩ := hc N hN
  obtain ⟨now, snap, rows, r, buf, rd, D, H, R, rfl, hr⟩ := hN; have hM := CR_of hr
  refine hP _ _ _ _ ?_; (conv => whnf)
  refine ⟨Nat.le_of_ble_eq_true rfl, rfl, ?_⟩; (conv => whnf); obtain ⟨_, hc, now, snap, rows, r, buf, rd, D, H, R, rfl, hr⟩ := hy; have hM := CR_of hr; refine Or.inl ⟨_, _, hc, ?_⟩; (conv => whnf)
  exact ⟨rfl, ⟨.boolean, rfl, rfl⟩, hQ _ hM⟩
theorem a_lacks (hP : PCa (d + 15) Q P) {a2 : SA} (hc : ∀ N, CR N A → ∃ y, cl9 d kX5_noteLacks [.ref 0, .int (nI p), .int (nI c)] N (rV y) (chg A a2)) (hQ : ∀ N, CR N (chg A a2) → Q (rV (nI 1)) N) : ∀ N, CR N A → P 154 (LAc x p c a b e) [] N := by
  intro N hN
  obtain ⟨y, hy⟩ := hc N hN
  obtain ⟨now, snap, rows, r, buf, rd, D, H, R, rfl, hr⟩ := hN; have hM := CR_of hr
  refine hP _ _ _ _ ?_; (conv => whnf)
  refine ⟨Nat.le_of_ble_eq_true rfl, rfl, ?_⟩; (conv => whnf); obtain ⟨_, hc, now, snap, rows, r, buf, rd, D, H, R, rfl, hr⟩ := hy; have hM := CR_of hr; refine Or.inl ⟨_, _, hc, ?_⟩; (conv => whnf)
  exact ⟨rfl, ⟨.boolean, rfl, rfl⟩, hQ _ hM⟩
theorem a_shows (hP : PCa (d + 15) Q P) {a2 : SA} (hc : ∀ N, CR N A → ∃ y, cl9 d kX5_noteShows [.ref 0, .int (nI p), .int (nI a), .int (cst 3 + nI b), .int (cst 6 + nI e)] N (rV y) (chg A a2)) (hQ : ∀ N, CR N (chg A a2) → Q (rV (nI 1)) N) : ∀ N, CR N A → P 164 (LAc x p c a b e) [] N := by
  intro N hN
  obtain ⟨y, hy⟩ := hc N hN
  obtain ⟨now, snap, rows, r, buf, rd, D, H, R, rfl, hr⟩ := hN; have hM := CR_of hr
  refine hP _ _ _ _ ?_; (conv => whnf)
  refine ⟨Nat.le_of_ble_eq_true rfl, rfl, ?_⟩; (conv => whnf); obtain ⟨_, hc, now, snap, rows, r, buf, rd, D, H, R, rfl, hr⟩ := hy; have hM := CR_of hr; refine Or.inl ⟨_, _, hc, ?_⟩; (conv => whnf)
  exact ⟨rfl, ⟨.boolean, rfl, rfl⟩, hQ _ hM⟩
theorem a_ask (hP : PCa (d + 15) Q P) {a2 : SA} (hc : ∀ N, CR N A → ∃ y, cl9 d kX5_ask [.ref 0, .int (nI p), .int (nI a), .int (cst 3 + nI b), .int (cst 6 + nI e)] N (rV y) (chg A a2)) (hQ : ∀ N, CR N (chg A a2) → Q (rV (nI 1)) N) : ∀ N, CR N A → P 178 (LAc x p c a b e) [] N := by
  intro N hN
  obtain ⟨y, hy⟩ := hc N hN
  obtain ⟨now, snap, rows, r, buf, rd, D, H, R, rfl, hr⟩ := hN; have hM := CR_of hr
  refine hP _ _ _ _ ?_; (conv => whnf)
  refine ⟨Nat.le_of_ble_eq_true rfl, rfl, ?_⟩; (conv => whnf); obtain ⟨_, hc, now, snap, rows, r, buf, rd, D, H, R, rfl, hr⟩ := hy; have hM := CR_of hr; refine Or.inl ⟨_, _, hc, ?_⟩; (conv => whnf)
  exact ⟨rfl, ⟨.boolean, rfl, rfl⟩, hQ _ hM⟩
theorem a_look (hP : PCa (d + 15) Q P) {a2 : SA} (hc : ∀ N, CR N A → ∃ y, cl9 d kX5_look [.ref 0, .int (nI p), .int (nI a), .int (cst 3 + nI b), .int (cst 6 + nI e)] N (rV y) (chg A a2)) (hQ : ∀ N, CR N (chg A a2) → Q (rV (nI 1)) N) : ∀ N, CR N A → P 192 (LAc x p c a b e) [] N := by
  intro N hN
  obtain ⟨y, hy⟩ := hc N hN
  obtain ⟨now, snap, rows, r, buf, rd, D, H, R, rfl, hr⟩ := hN; have hM := CR_of hr
  refine hP _ _ _ _ ?_; (conv => whnf)
  refine ⟨Nat.le_of_ble_eq_true rfl, rfl, ?_⟩; (conv => whnf); obtain ⟨_, hc, now, snap, rows, r, buf, rd, D, H, R, rfl, hr⟩ := hy; have hM := CR_of hr; refine Or.inl ⟨_, _, hc, ?_⟩; (conv => whnf)
  exact ⟨rfl, ⟨.boolean, rfl, rfl⟩, hQ _ hM⟩
theorem a_accuse (hP : PCa (d + 15) Q P) {a2 : SA} (hc : ∀ N, CR N A → ∃ y, cl9 d kX5_accuse [.ref 0, .int (nI a), .int (cst 3 + nI b), .int (cst 6 + nI e)] N (rV y) (chg A a2)) (hQ : ∀ N, CR N (chg A a2) → Q (rV (nI 1)) N) : ∀ N, CR N A → P 206 (LAc x p c a b e) [] N := by
  intro N hN
  obtain ⟨y, hy⟩ := hc N hN
  obtain ⟨now, snap, rows, r, buf, rd, D, H, R, rfl, hr⟩ := hN; have hM := CR_of hr
  refine hP _ _ _ _ ?_; (conv => whnf)
  refine ⟨Nat.le_of_ble_eq_true rfl, rfl, ?_⟩; (conv => whnf); obtain ⟨_, hc, now, snap, rows, r, buf, rd, D, H, R, rfl, hr⟩ := hy; have hM := CR_of hr; refine Or.inl ⟨_, _, hc, ?_⟩; (conv => whnf)
  exact ⟨rfl, ⟨.boolean, rfl, rfl⟩, hQ _ hM⟩
theorem a_drop (hP : PCa (d + 15) Q P) (h0 : A.1.1.length = 0 → ∀ N, CR N A → Q (rV (nI 0)) N) (hQ : 0 < A.1.1.length → ∀ N, CR N (chg A (A.1.1.eraseIdx (lw (sh x 2) A.1.1.length), A.1.2)) → Q (rV (nI 1)) N) : ∀ N, CR N A → P 219 (LAc x p c a b e) [] N := by
  intro N hN
  have hn := (CR_okA hN).1
  obtain ⟨now, snap, rows, r, buf, rd, D, H, R, rfl, hr⟩ := hN; have hM := CR_of hr
  refine hP _ _ _ _ ?_; (conv => whnf)
  refine ⟨Nat.le_of_ble_eq_true rfl, rfl, ?_⟩; (conv => whnf); obtain ⟨_, hc, now, snap, rows, r, buf, rd, D, H, R, rfl, hr⟩ := t_clues (d := d) hM; have hM := CR_of hr; refine Or.inl ⟨_, _, hc, ?_⟩; (conv => whnf)
  refine b1 A.1.1.length rfl (by omega) (fun (q : ¬ A.1.1.length = 0) => ?_) (fun (q : ¬ ¬ A.1.1.length = 0) => ?_)
  · refine hP _ _ _ _ ?_; (conv => whnf)
    refine ⟨Nat.le_of_ble_eq_true rfl, rfl, ?_⟩; (conv => whnf); obtain ⟨_, hc, now, snap, rows, r, buf, rd, D, H, R, rfl, hr⟩ := t_clues (d := d) hM; have hM := CR_of hr; refine Or.inl ⟨_, _, hc, ?_⟩; (conv => whnf)
    refine ⟨Nat.le_of_ble_eq_true rfl, rfl, ?_⟩; (conv => whnf); refine Or.inl ⟨_, _, Cl_s (s_low (n := A.1.1.length) (by omega) (by omega)), ?_⟩; (conv => whnf)
    obtain ⟨y, hy⟩ := t_drop (d := d) hM (lw_lt (sh x 2) (show 0 < A.1.1.length by omega))
    refine ⟨Nat.le_of_ble_eq_true rfl, rfl, ?_⟩; (conv => whnf); obtain ⟨_, hc, now, snap, rows, r, buf, rd, D, H, R, rfl, hr⟩ := hy; have hM := CR_of hr; refine Or.inl ⟨_, _, hc, ?_⟩; (conv => whnf)
    exact ⟨rfl, ⟨.boolean, rfl, rfl⟩, hQ (by omega) _ hM⟩
  · (conv => whnf)
    exact ⟨rfl, ⟨.boolean, rfl, rfl⟩, h0 (Decidable.of_not_not q) _ hM⟩
theorem a_all (hP : PCa (d + 15) Q P) (h0 : sh x 9 &&& cst 1 = 0 → ∀ N, CR N A → Q (rV (nI 0)) N) (hQ : ¬ sh x 9 &&& cst 1 = 0 → ∀ N, CR N (chg A ([], A.1.2)) → Q (rV (nI 1)) N) : ∀ N, CR N A → P 245 (LAc x p c a b e) [] N := by
  intro N hN
  obtain ⟨now, snap, rows, r, buf, rd, D, H, R, rfl, hr⟩ := hN; have hM := CR_of hr
  refine hP _ _ _ _ ?_; (conv => whnf)
  refine ⟨fun q => ?_, fun q => ?_⟩
  · refine hP _ _ _ _ ?_; (conv => whnf)
    obtain ⟨y, hy⟩ := t_dropAll (d := d) hM
    refine ⟨Nat.le_of_ble_eq_true rfl, rfl, ?_⟩; (conv => whnf); obtain ⟨_, hc, now, snap, rows, r, buf, rd, D, H, R, rfl, hr⟩ := hy; have hM := CR_of hr; refine Or.inl ⟨_, _, hc, ?_⟩; (conv => whnf)
    exact ⟨rfl, ⟨.boolean, rfl, rfl⟩, hQ q _ hM⟩
  · (conv => whnf)
    exact ⟨rfl, ⟨.boolean, rfl, rfl⟩, h0 (Decidable.of_not_not q) _ hM⟩
theorem a_exch (hP : PCa (d + 15) Q P) (hc : c < 9) (hr : ¬ (Nat.beq (A.1.2.1 c) 3 = Nat.beq (A.1.2.1 (gO x)) 3) → ¬ c / 3 = gO x / 3 → ∀ N, CR N A → Q (rV (nI 0)) N)
    (hQ : (Nat.beq (A.1.2.1 c) 3 = Nat.beq (A.1.2.1 (gO x)) 3 ∨ c / 3 = gO x / 3) → ∀ N, CR N (chg A (A.1.1, swp A.1.2.1 c (gO x), A.1.2.2)) → Q (rV (nI 1)) N) : ∀ N, CR N A → P 263 (LAc x p c a b e) [] N := by
  intro N hN
  have hq4 := (CR_okA hN).2.2.1
  have ho : gO x < 9 := lw_lt _ (by decide)
  have e1 : nI c / cst 3 = nI (c / 3) := pk_div (by omega) (by decide) (by decide)
  have e2 : nI (gO x) / cst 3 = nI (gO x / 3) := pk_div (by omega) (by decide) (by decide)
  have h319 : (Nat.beq (A.1.2.1 c) 3 = Nat.beq (A.1.2.1 (gO x)) 3 ∨ c / 3 = gO x / 3) → ∀ N, CR N A → P 319 [some (.ref 0), none, none, none, some (.int (nI c)), none, none, none, none, some (.int (nI (gO x)))] [] N := by
    intro hh N hN
    obtain ⟨now, snap, rows, r, buf, rd, D, H, R, rfl, hr⟩ := hN; have hM := CR_of hr
    refine hP _ _ _ _ ?_; (conv => whnf)
    obtain ⟨y, hy⟩ := t_exch (d := d) hM hc ho (itr_exch hq4 hc ho hh)
    refine ⟨Nat.le_of_ble_eq_true rfl, rfl, ?_⟩; (conv => whnf); obtain ⟨_, hc, now, snap, rows, r, buf, rd, D, H, R, rfl, hr⟩ := hy; have hM := CR_of hr; refine Or.inl ⟨_, _, hc, ?_⟩; (conv => whnf)
    exact ⟨rfl, ⟨.boolean, rfl, rfl⟩, hQ hh _ hM⟩
  have h303 : ∀ (i1 i2 : Bool), Nat.beq (A.1.2.1 c) 3 = i1 → Nat.beq (A.1.2.1 (gO x)) 3 = i2 → ∀ N, CR N A → P 303 [some (.ref 0), none, none, none, some (.int (nI c)), none, none, none, none, some (.int (nI (gO x)))] [.int (bI i2), .int (bI i1)] N := by
    intro i1 i2 h1 h2 N hN
    refine hP _ _ _ _ ?_; (conv => whnf)
    have key : i1 = i2 → P 319 [some (.ref 0), none, none, none, some (.int (nI c)), none, none, none, none, some (.int (nI (gO x)))] [] N := fun z => h319 (Or.inl (by rw [h1, h2, z])) N hN
    have rest : ¬ i1 = i2 → wI (Cl (d + 15)) Q (some .boolean) P (fnd pgL_act 306) [some (.ref 0), none, none, none, some (.int (nI c)), none, none, none, none, some (.int (nI (gO x)))] [] N := by
      intro hz
      conv => whnf
      refine ⟨by decide, ?_⟩; (conv => whnf)
      refine ⟨by decide, ?_⟩; (conv => whnf)
      refine b2 (c / 3) (gO x / 3) e1 e2 (by omega) (by omega) (fun (q : c / 3 = gO x / 3) => ?_) (fun (q : ¬ c / 3 = gO x / 3) => ?_)
      · exact h319 (Or.inr q) N hN
      · (conv => whnf)
        exact ⟨rfl, ⟨.boolean, rfl, rfl⟩, hr (by rw [h1, h2]; exact hz) q N hN⟩
    cases i1 with
    | true =>
      cases i2 with
      | true => exact b2 1 1 rfl rfl (by omega) (by omega) (fun _ => key rfl) (fun (q : ¬ 1 = 1) => absurd rfl q)
      | false => exact b2 1 0 rfl rfl (by omega) (by omega) (fun (q : 1 = 0) => by omega) (fun _ => rest (fun z => by cases z))
    | false =>
      cases i2 with
      | true => exact b2 0 1 rfl rfl (by omega) (by omega) (fun (q : 0 = 1) => by omega) (fun _ => rest (fun z => by cases z))
      | false => exact b2 0 0 rfl rfl (by omega) (by omega) (fun _ => key rfl) (fun (q : ¬ 0 = 0) => absurd rfl q)
  have h288 : ∀ (i1 : Bool), Nat.beq (A.1.2.1 c) 3 = i1 → ∀ N, CR N A → P 288 [some (.ref 0), none, none, none, some (.int (nI c)), none, none, none, none, some (.int (nI (gO x)))] [.int (bI i1)] N := by
    intro i1 h1 N hN
    have h4 := hq4.1 _ ho
    obtain ⟨now, snap, rows, r, buf, rd, D, H, R, rfl, hr⟩ := hN; have hM := CR_of hr
    refine hP _ _ _ _ ?_; (conv => whnf)
    refine ⟨Nat.le_of_ble_eq_true rfl, rfl, ?_⟩; (conv => whnf); obtain ⟨_, hc, now, snap, rows, r, buf, rd, D, H, R, rfl, hr⟩ := t_place (d := d) hM ho; have hM := CR_of hr; refine Or.inl ⟨_, _, hc, ?_⟩; (conv => whnf)
    refine b2 (A.1.2.1 (gO x)) 3 rfl rfl (by omega) (by omega) (fun (q : ¬ A.1.2.1 (gO x) = 3) => ?_) (fun (q : ¬ ¬ A.1.2.1 (gO x) = 3) => ?_)
    · refine hP _ _ _ _ ?_; (conv => whnf)
      exact h303 i1 false h1 (nbf q) _ hM
    · (conv => whnf)
      exact h303 i1 true h1 (nbt (Decidable.of_not_not q)) _ hM
  have h4 := hq4.1 _ hc
  obtain ⟨now, snap, rows, r, buf, rd, D, H, R, rfl, hr⟩ := hN; have hM := CR_of hr
  refine hP _ _ _ _ ?_; (conv => whnf)
  refine ⟨Nat.le_of_ble_eq_true rfl, rfl, ?_⟩; (conv => whnf); refine Or.inl ⟨_, _, Cl_s (s_low (n := 9) (by decide) (by decide)), ?_⟩; (conv => whnf)
  refine ⟨Nat.le_of_ble_eq_true rfl, rfl, ?_⟩; (conv => whnf); obtain ⟨_, hc, now, snap, rows, r, buf, rd, D, H, R, rfl, hr⟩ := t_place (d := d) hM hc; have hM := CR_of hr; refine Or.inl ⟨_, _, hc, ?_⟩; (conv => whnf)
  refine b2 (A.1.2.1 c) 3 rfl rfl (by omega) (by omega) (fun (q : ¬ A.1.2.1 c = 3) => ?_) (fun (q : ¬ ¬ A.1.2.1 c = 3) => ?_)
  · refine hP _ _ _ _ ?_; (conv => whnf)
    exact h288 false (nbf q) _ hM
  · (conv => whnf)
    exact h288 true (nbt (Decidable.of_not_not q)) _ hM
end ACT
/-- the ends of act: nothing done, or the state a2 -/
def QA0 (A : AS) : Res → Mem → Prop := fun r M' => r = rV (nI 0) ∧ CR M' A
def QA1 (A : AS) (a2 : SA) : Res → Mem → Prop := fun r M' => r = rV (nI 1) ∧ CR M' (chg A a2)
abbrev acR (d : Nat) (v x : Int32) (M : Mem) (r : Res) (B : AS) : Prop := ∃ M', Cl (d + 16) kL_act [.ref 0, .int v, .int x] M r M' ∧ CR M' B
theorem act_0 {d : Nat} {v x : Int32} {M : Mem} {A : AS} (hM : CR M A) (h : ∀ P, PCa (d + 15) (QA0 A) P → P 0 (entL 10 [.ref 0, .int v, .int x]) [] M) : acR d v x M (rV (nI 0)) A := by
  have hne : ∃ r M', QA0 A r M' := ⟨_, M, rfl, hM⟩
  suffices hh : ∃ r M', QA0 A r M' ∧ Cl (d + 16) kL_act [.ref 0, .int v, .int x] M r M' by
    obtain ⟨r, M', ⟨rfl, h1⟩, h2⟩ := hh
    exact ⟨M', h2, h1⟩
  exact Cl_goQ e_L_act rfl (Nat.le_of_ble_eq_true rfl) (fun r M' q => (CR_len q.2).trans (CR_len hM).symm) hne h
theorem act_1 {d : Nat} {v x : Int32} {M N : Mem} {A : AS} {a2 : SA} (hM : CR M A) (hN : CR N (chg A a2)) (h : ∀ P, PCa (d + 15) (QA1 A a2) P → P 0 (entL 10 [.ref 0, .int v, .int x]) [] M) : acR d v x M (rV (nI 1)) (chg A a2) := by
  have hne : ∃ r M', QA1 A a2 r M' := ⟨_, N, rfl, hN⟩
  suffices hh : ∃ r M', QA1 A a2 r M' ∧ Cl (d + 16) kL_act [.ref 0, .int v, .int x] M r M' by
    obtain ⟨r, M', ⟨rfl, h1⟩, h2⟩ := hh
    exact ⟨M', h2, h1⟩
  exact Cl_goQ e_L_act rfl (Nat.le_of_ble_eq_true rfl) (fun r M' q => (CR_len q.2).trans (CR_len hM).symm) hne h
/-- what act does to a state: nothing, or it becomes another -/
def Act (d : Nat) (a : SA) (v x : Int32) : Prop := (∀ (M : Mem) (A : AS), CR M A → A.1 = a → acR d v x M (rV (nI 0)) A) ∨ ∃ a2, okM a2 ∧ ∀ (M : Mem) (A : AS), CR M A → A.1 = a → acR d v x M (rV (nI 1)) (chg A a2)
theorem act_n {d : Nat} {v x : Int32} {M : Mem} {A : AS} (K : Nat) (hK : K < 16) (hv : v &&& cst 15 = nI K) (hM : CR M A) (hz : ¬ (K < 11 ∧ A.1.1.length = 20))
    (h : ∀ P, PCa (d + 15) (QA0 A) P → (K < 11 → A.1.1.length < 20) → ∀ N, CR N A → P (tgt K) (LAc x (gP v) (gC x) (gA x) (gB x) (gE x)) [] N) : acR d v x M (rV (nI 0)) A :=
  act_0 hM (fun P hP => a_pre hP hM K hK hv (fun h1 h2 => absurd ⟨h1, h2⟩ hz) (h P hP))
theorem act_s {d : Nat} {v x : Int32} {M N : Mem} {A : AS} {a2 : SA} (K : Nat) (hK : K < 16) (hv : v &&& cst 15 = nI K) (hM : CR M A) (hN : CR N (chg A a2)) (hz : ¬ (K < 11 ∧ A.1.1.length = 20))
    (h : ∀ P, PCa (d + 15) (QA1 A a2) P → (K < 11 → A.1.1.length < 20) → ∀ N, CR N A → P (tgt K) (LAc x (gP v) (gC x) (gA x) (gB x) (gE x)) [] N) : acR d v x M (rV (nI 1)) (chg A a2) :=
  act_1 hM hN (fun P hP => a_pre hP hM K hK hv (fun h1 h2 => absurd ⟨h1, h2⟩ hz) (h P hP))
theorem and15 (v : Int32) : ∃ K, K < 16 ∧ v &&& cst 15 = nI K := by
  refine ⟨(v &&& cst 15).toBitVec.toNat, ?_, nI_self _⟩
  show (v.toBitVec &&& (cst 15).toBitVec).toNat < 16
  rw [BitVec.toNat_and]
  exact Nat.lt_of_le_of_lt Nat.and_le_right (by decide)
/-- a change out of a call that is there -/
theorem Act_of {d : Nat} {a : SA} {v x : Int32} {K : Nat} (hK : K < 16) (hv : v &&& cst 15 = nI K) (hz : ¬ (K < 11 ∧ a.1.length = 20)) {a2 : SA} (ok : okM a2) {k : Nat} {av : List Value}
    (hc : ∀ (M : Mem) (A : AS), CR M A → A.1 = a → ∃ y, cl9 d k av M (rV y) (chg A a2))
    (h : ∀ (A : AS), A.1 = a → ∀ P, PCa (d + 15) (QA1 A a2) P → (∀ N, CR N A → ∃ y, cl9 d k av N (rV y) (chg A a2)) → (∀ N, CR N (chg A a2) → QA1 A a2 (rV (nI 1)) N) → ∀ N, CR N A → P (tgt K) (LAc x (gP v) (gC x) (gA x) (gB x) (gE x)) [] N) : Act d a v x := by
  refine Or.inr ⟨a2, ok, fun M A hM hA => ?_⟩
  obtain ⟨y, N, -, hN⟩ := hc M A hM hA
  subst hA
  exact act_s K hK hv hM hN hz (fun P hP _ => h A rfl P hP (fun N hN => hc N A hN rfl) (fun N hN => ⟨rfl, hN⟩))
set_option maxHeartbeats 1000000 in
theorem s_act {d : Nat} {a : SA} (oa : okA a) (om : okM a) (v x : Int32) : Act d a v x := by
  obtain ⟨K, hK, hv⟩ := and15 v
  have g1 : gP v < 3 := lw_lt _ (by decide)
  have g2 : gC x < 9 := lw_lt _ (by decide)
  have g3 : gA x < 3 := lw_lt _ (by decide)
  have g4 : gB x < 3 := lw_lt _ (by decide)
  have g5 : gE x < 3 := lw_lt _ (by decide)
  have g6 : gO x < 9 := lw_lt _ (by decide)
  by_cases hz : K < 11 ∧ a.1.length = 20
  · refine Or.inl (fun M A hM hA => ?_)
    subst hA
    exact act_0 hM (fun P hP => a_pre hP hM K hK hv (fun _ _ N hN => ⟨rfl, hN⟩) (fun q => absurd (q hz.1) (by omega)))
  · have h20 := oa.1
    have hlt : K < 11 → a.1.length < 20 := fun q => by omega
    have hT : 3 ≤ 3 + gB x ∧ 3 + gB x < 6 := by omega
    have hR : 6 ≤ 6 + gE x ∧ 6 + gE x < 9 := by omega
    have eT : nI (3 + gB x) = cst 3 + nI (gB x) := (nI_add 3 (gB x)).symm
    have eR : nI (6 + gE x) = cst 6 + nI (gE x) := (nI_add 6 (gE x)).symm
    have tq : K < 11 → ∀ (M : Mem) (A : AS), CR M A → A.1 = a → _ := fun q M A hM hA => t_q (d := d) hM g1 g3 hT hR (by rw [hA]; exact hlt q)
    simp only [eT, eR] at tq
    have h16 : K = 0 ∨ (K = 1 ∨ K = 2) ∨ K = 3 ∨ (K = 4 ∨ K = 5 ∨ K = 6) ∨ (K = 7 ∨ K = 8) ∨ (K = 9 ∨ K = 10) ∨ (K = 11 ∨ K = 12) ∨ K = 13 ∨ (K = 14 ∨ K = 15) := by omega
    rcases h16 with hk | hk | hk | hk | hk | hk | hk | hk | hk
    · refine Act_of hK hv hz (okM_add om (y := (0, gP v, 2 ^ gC x)) (fun _ => ⟨gC x, g2, rfl⟩)) (fun M A hM hA => by
        have h := (t_note (d := d) hM g1 g2 (by rw [hA]; exact hlt (by omega))).1
        rw [hA] at h; exact h) (fun A hA P hP hc hQ => ?_)
      subst hk
      exact a_has hP hc hQ
    · refine Act_of hK hv hz (okM_add om (y := (1, gP v, 2 ^ gC x)) (fun (h0 : 1 = 0) => by omega)) (fun M A hM hA => by
        have h := (t_note (d := d) hM g1 g2 (by rw [hA]; exact hlt (by omega))).2
        rw [hA] at h; exact h) (fun A hA P hP hc hQ => ?_)
      rcases hk with rfl | rfl <;> exact a_lacks hP hc hQ
    · refine Act_of hK hv hz (okM_add om (y := (2, gP v, dq_mask (trN (gA x) (3 + gB x) (6 + gE x)))) (fun (h0 : 2 = 0) => by omega)) (fun M A hM hA => by
        have h := (tq (by omega) M A hM hA).1
        rw [hA] at h; exact h) (fun A hA P hP hc hQ => ?_)
      subst hk
      exact a_shows hP hc hQ
    · refine Act_of hK hv hz (okM_add om (y := (bif Nat.beq (hq a.2.1 (gP v) &&& dq_mask (trN (gA x) (3 + gB x) (6 + gE x))) 0 then 3 else 2, gP v, dq_mask (trN (gA x) (3 + gB x) (6 + gE x)))) (fun h0 => by
        cases hb : Nat.beq (hq a.2.1 (gP v) &&& dq_mask (trN (gA x) (3 + gB x) (6 + gE x))) 0 <;> (rw [hb] at h0; cases h0))) (fun M A hM hA => by
        have h := (tq (by omega) M A hM hA).2.1
        rw [hA] at h; exact h) (fun A hA P hP hc hQ => ?_)
      rcases hk with rfl | rfl | rfl <;> exact a_ask hP hc hQ
    · have hl : hq a.2.1 (gP v) &&& dq_mask (trN (gA x) (3 + gB x) (6 + gE x)) < 512 := Nat.lt_of_le_of_lt Nat.and_le_left (hq_lt _ _)
      refine Act_of hK hv hz (okM_add om (y := (spSee (a, none, [], []) (gP v) (trN (gA x) (3 + gB x) (6 + gE x))).2) (fun h0 => by
        unfold spSee at h0 ⊢
        have h0 : (bif Nat.beq (hq a.2.1 (gP v) &&& dq_mask (trN (gA x) (3 + gB x) (6 + gE x))) 0 then (cst (-1), (3, gP v, dq_mask (trN (gA x) (3 + gB x) (6 + gE x)))) else (nI (lowC (hq a.2.1 (gP v) &&& dq_mask (trN (gA x) (3 + gB x) (6 + gE x)))), (0, gP v, 2 ^ lowC (hq a.2.1 (gP v) &&& dq_mask (trN (gA x) (3 + gB x) (6 + gE x)))))).2.1 = 0 := h0
        show ∃ c, c < 9 ∧ (bif Nat.beq (hq a.2.1 (gP v) &&& dq_mask (trN (gA x) (3 + gB x) (6 + gE x))) 0 then (cst (-1), (3, gP v, dq_mask (trN (gA x) (3 + gB x) (6 + gE x)))) else (nI (lowC (hq a.2.1 (gP v) &&& dq_mask (trN (gA x) (3 + gB x) (6 + gE x)))), (0, gP v, 2 ^ lowC (hq a.2.1 (gP v) &&& dq_mask (trN (gA x) (3 + gB x) (6 + gE x)))))).2.2.2 = 2 ^ c
        cases hb : Nat.beq (hq a.2.1 (gP v) &&& dq_mask (trN (gA x) (3 + gB x) (6 + gE x))) 0 with
        | true => rw [hb] at h0; cases h0
        | false => exact ⟨_, (lowC_ok hl (fun z => by rw [nbt z] at hb; cases hb)).1, rfl⟩)) (fun M A hM hA => by
        have h := (tq (by omega) M A hM hA).2.2.1
        unfold spSee at h ⊢
        rw [hA] at h; exact h) (fun A hA P hP hc hQ => ?_)
      rcases hk with rfl | rfl <;> exact a_look hP hc hQ
    · refine Act_of hK hv hz (okM_add om (y := (bif Nat.beq (hq a.2.1 3) (dq_mask (trN (gA x) (3 + gB x) (6 + gE x))) then 5 else 4, 3, dq_mask (trN (gA x) (3 + gB x) (6 + gE x)))) (fun h0 => by
        cases hb : Nat.beq (hq a.2.1 3) (dq_mask (trN (gA x) (3 + gB x) (6 + gE x))) <;> (rw [hb] at h0; cases h0))) (fun M A hM hA => by
        have h := (tq (by omega) M A hM hA).2.2.2
        rw [hA] at h; exact h) (fun A hA P hP hc hQ => ?_)
      rcases hk with rfl | rfl <;> exact a_accuse hP hc hQ
    · by_cases h0 : a.1.length = 0
      · refine Or.inl (fun M A hM hA => ?_)
        subst hA
        refine act_n K hK hv hM hz (fun P hP _ => ?_)
        rcases hk with rfl | rfl <;> exact a_drop hP (fun _ N hN => ⟨rfl, hN⟩) (fun q => absurd q (by omega))
      · refine Or.inr ⟨_, okM_drop om (lw (sh x 2) a.1.length), fun M A hM hA => ?_⟩
        subst hA
        obtain ⟨y, N, -, hN⟩ := t_drop (d := d) hM (lw_lt (sh x 2) (show 0 < A.1.1.length by omega))
        refine act_s K hK hv hM hN hz (fun P hP _ => ?_)
        rcases hk with rfl | rfl <;> exact a_drop hP (fun q => absurd q h0) (fun _ N hN => ⟨rfl, hN⟩)
    · by_cases h0 : sh x 9 &&& cst 1 = 0
      · refine Or.inl (fun M A hM hA => ?_)
        subst hA
        refine act_n K hK hv hM hz (fun P hP _ => ?_)
        subst hk
        exact a_all hP (fun _ N hN => ⟨rfl, hN⟩) (fun q => absurd h0 q)
      · refine Or.inr ⟨_, okM_none om, fun M A hM hA => ?_⟩
        subst hA
        obtain ⟨y, N, -, hN⟩ := t_dropAll (d := d) hM
        refine act_s K hK hv hM hN hz (fun P hP _ => ?_)
        subst hk
        exact a_all hP (fun q => absurd q h0) (fun _ N hN => ⟨rfl, hN⟩)
    · by_cases h0 : Nat.beq (a.2.1 (gC x)) 3 = Nat.beq (a.2.1 (gO x)) 3 ∨ gC x / 3 = gO x / 3
      · refine Or.inr ⟨_, okM_exch om g2 g6, fun M A hM hA => ?_⟩
        subst hA
        obtain ⟨y, N, -, hN⟩ := t_exch (d := d) hM g2 g6 (itr_exch oa.2.2.1 g2 g6 h0)
        refine act_s K hK hv hM hN hz (fun P hP _ => ?_)
        rcases hk with rfl | rfl <;> exact a_exch hP g2 (fun q1 q2 => absurd h0 (fun z => z.elim q1 q2)) (fun _ N hN => ⟨rfl, hN⟩)
      · refine Or.inl (fun M A hM hA => ?_)
        subst hA
        refine act_n K hK hv hM hz (fun P hP _ => ?_)
        rcases hk with rfl | rfl <;> exact a_exch hP g2 (fun _ _ N hN => ⟨rfl, hN⟩) (fun q => absurd q h0)
