/-! the law's memory: the class's cells, the reference's, the answer -/
def fM (i : Nat) : Nat := 49 + i
def LMm (MX mm : Mem) (f : Nat → Int64) : Mem := MX ++ (mm.map (rnE fM) ++ [eJ 1 f])
theorem mget_app : ∀ (M N : Mem) (i : Nat), mget (M ++ N) i = if i < M.length then mget M i else mget N (i - M.length) := by
  intro M
  induction M with
  | nil => intro N i; rfl
  | cons a r ih =>
    intro N i
    cases i with
    | zero => rw [if_pos (show 0 < (a :: r).length from Nat.succ_pos _)]; rfl
    | succ i =>
      show mget (r ++ N) i = _
      rw [ih]
      by_cases h : i < r.length
      · rw [if_pos h, if_pos (show i + 1 < (a :: r).length from Nat.succ_lt_succ h)]; rfl
      · rw [if_neg h, if_neg (show ¬ i + 1 < (a :: r).length from fun z => h (Nat.lt_of_succ_lt_succ z))]
        have e : i + 1 - (a :: r).length = i - r.length := Nat.succ_sub_succ i r.length
        rw [e]
theorem mget_map (g : Ent → Ent) : ∀ (m : Mem) (i : Nat), mget (m.map g) i = (mget m i).map g := by
  intro m
  induction m with
  | nil => intro i; rfl
  | cons a r ih =>
    intro i
    cases i with
    | zero => rfl
    | succ i => exact ih i
theorem mset_app : ∀ (M N : Mem) (i : Nat) (e : Ent), mset (M ++ N) (M.length + i) e = M ++ mset N i e := by
  intro M
  induction M with
  | nil => intro N i e; rw [List.length_nil, Nat.zero_add]; rfl
  | cons a r ih =>
    intro N i e
    have e1 : (a :: r).length + i = (r.length + i) + 1 := by rw [List.length_cons]; omega
    rw [e1]
    show a :: mset (r ++ N) (r.length + i) e = a :: (r ++ mset N i e)
    rw [ih]
theorem trV_id (v : Value) : trV (fun i => i) v = v := by cases v <;> rfl
theorem rnE_id (e : Ent) : rnE (fun i => i) e = e := by
  match e with
  | .inl (n, f) => rfl
  | .inr (.inl (n, f)) => rfl
  | .inr (.inr (.inl (n, f))) =>
    show eR n (fun j => (f j).map (fun i => i)) = eR n f
    congr 1
    funext j
    cases f j <;> rfl
  | .inr (.inr (.inr (ci, fs))) =>
    show eO ci (fs.map (trV (fun i => i))) = eO ci fs
    rw [show (trV (fun i => i)) = id from funext trV_id, List.map_id]
theorem rnR_id (r : Res) : rnR (fun i => i) r = r := by
  match r with
  | .inl none => rfl
  | .inl (some v) =>
    show Sum.inl (some (trV (fun i => i) v)) = Sum.inl (some v)
    rw [trV_id]
  | .inr x => rfl
/-- a run in a memory is one with more behind it -/
theorem Cl_fr {d k : Nat} {av : List Value} {M M' : Mem} {r : Res} (h : Cl d k av M r M') (N : Mem) : Cl d k av (M ++ N) r (M' ++ N) := by
  have hl := Cl_len h
  have hi : injK (fun i => i) 0 M.length := fun i j _ _ z => by have z : 0 + i = 0 + j := z; omega
  have hb : ∀ i, i < M.length → (fun i => i) (0 + i) < (M ++ N).length := fun i hi => by
    show 0 + i < _
    rw [List.length_append]; omega
  have h1 := Cl_lift (fun i => i) d k av M r M' h (M ++ N) hi hb (fun i e he => by
    show mget (M ++ N) (0 + i) = _
    rw [Nat.zero_add, mget_app, if_pos, he, rnE_id]
    refine Nat.lt_of_not_le fun z => ?_
    rw [show mget M i = none from by
      cases hm : mget M i with
      | none => rfl
      | some e' =>
        have := (wzf_get (⟨fun _ => 0, fun _ _ => 0⟩, 0, 0, 0, fun i => i) M 0 i e' hm)
        have h2 := (List.getElem?_eq_some_iff.mp this).1
        rw [wzf_len] at h2
        omega] at he
    cases he)
  have e1 : av.map (trV (fun i => i)) = av := by rw [show (trV (fun i => i)) = id from funext trV_id, List.map_id]
  rw [e1, rnR_id] at h1
  have e2 : putb (fun i => i) 0 M' (M ++ N) = M' ++ N := by
    refine putb_eq _ (by rw [hl]; exact hi) (by rw [hl]; exact hb) (by rw [List.length_append, List.length_append, hl]) (fun i e he => ?_) (fun j hj => ?_)
    · show mget (M' ++ N) (0 + i) = _
      rw [Nat.zero_add, mget_app, if_pos, he, rnE_id]
      have h3 := (wzf_get (⟨fun _ => 0, fun _ _ => 0⟩, 0, 0, 0, fun i => i) M' 0 i e he)
      have h2 := (List.getElem?_eq_some_iff.mp h3).1
      rw [wzf_len] at h2
      exact h2
    · have hj2 : ¬ j < M'.length := fun z => hj j z (Nat.zero_add j)
      rw [mget_app M' N, mget_app M N, if_neg hj2, if_neg (by rw [← hl]; exact hj2), hl]
  rw [e2] at h1
  exact h1
/-- a run of the reference, in the law's memory -/
theorem Cl_rf {d k : Nat} {av : List Value} {m m' : Mem} {r : Res} (h : Cl d k av m r m') {MX : Mem} (hX : MX.length = 49) (N : Mem) : Cl d k (av.map (trV fM)) (MX ++ (m.map (rnE fM) ++ N)) (rnR fM r) (MX ++ (m'.map (rnE fM) ++ N)) := by
  have hl := Cl_len h
  have hi : injK fM 0 m.length := fun i j _ _ z => by have z : 49 + (0 + i) = 49 + (0 + j) := z; omega
  have hb : ∀ i, i < m.length → fM (0 + i) < (MX ++ (m.map (rnE fM) ++ N)).length := fun i hi => by
    show 49 + (0 + i) < _
    rw [List.length_append, List.length_append, List.length_map, hX]; omega
  have hg : ∀ (q : Mem) (i : Nat), mget (MX ++ (q.map (rnE fM) ++ N)) (fM (0 + i)) = if i < q.length then (mget q i).map (rnE fM) else mget N (i - q.length) := fun q i => by
    show mget _ (49 + (0 + i)) = _
    rw [mget_app, if_neg (by omega), mget_app, List.length_map, hX]
    have e : 49 + (0 + i) - 49 = i := by omega
    rw [e, mget_map]
  have h1 := Cl_lift fM d k av m r m' h _ hi hb (fun i e he => by rw [hg, if_pos (mget_lt he), he]; rfl)
  have e2 : putb fM 0 m' (MX ++ (m.map (rnE fM) ++ N)) = MX ++ (m'.map (rnE fM) ++ N) := by
    refine putb_eq _ (by rw [hl]; exact hi) (by rw [hl]; exact hb) (by simp only [List.length_append, List.length_map, hl]) (fun i e he => by rw [hg, if_pos (mget_lt he), he]; rfl) (fun j hj => ?_)
    by_cases hj1 : j < 49
    · rw [mget_app MX (m'.map (rnE fM) ++ N), mget_app MX (m.map (rnE fM) ++ N), if_pos (by omega), if_pos (by omega)]
    · have ej : j = fM (0 + (j - 49)) := by show j = 49 + (0 + (j - 49)); omega
      have hj2 : ¬ j - 49 < m'.length := fun z => hj (j - 49) z ej.symm
      rw [ej, hg, hg, if_neg hj2, if_neg (by rw [← hl]; exact hj2), hl]
  rw [e2] at h1
  exact h1
/-- class and reference in the law's memory: what they stand for -/
def LJ (M : Mem) (A B : AS) : Prop := ∃ (MX : Mem) (t : Int32) (mm : Mem) (f : Nat → Int64), CR MX A ∧ RM t mm B ∧ M = LMm MX mm f
theorem CR_len {M : Mem} {A : AS} (h : CR M A) : M.length = 49 := by
  obtain ⟨now, snap, rows, r, buf, rd, D, H, R, rfl, -⟩ := h
  rfl
theorem RM_len {t : Int32} {M : Mem} {A : AS} (h : RM t M A) : M.length = 11 := by
  obtain ⟨_, _, _, _, _, _, _, _, _, _, _, _, _, _, _, _, _, _, rfl, -⟩ := h
  rfl
theorem LJ_len {M : Mem} {A B : AS} (h : LJ M A B) : M.length = 61 := by
  obtain ⟨MX, t, mm, f, h1, h2, rfl⟩ := h
  have e1 := CR_len h1
  have e2 := RM_len h2
  simp only [LMm, List.length_append, List.length_map, e1, e2, List.length_cons, List.length_nil]
theorem LJ_0 {M : Mem} {A B : AS} (h : LJ M A B) : ∃ fs, mget M 0 = some (eO 5 fs) := by
  obtain ⟨MX, t, mm, f, h1, h2, rfl⟩ := h
  obtain ⟨now, snap, rows, r, buf, rd, D, H, R, rfl, -⟩ := h1
  exact ⟨_, rfl⟩
theorem LJ_49 {M : Mem} {A B : AS} (h : LJ M A B) : ∃ fs, mget M 49 = some (eO 6 fs) := by
  obtain ⟨MX, t, mm, f, h1, h2, rfl⟩ := h
  have e1 := CR_len h1
  obtain ⟨_, _, _, _, _, _, _, _, _, _, _, _, _, _, _, _, _, _, rfl, -⟩ := h2
  unfold LMm
  rw [mget_app, if_neg (by omega), e1]
  exact ⟨_, rfl⟩
theorem LM_60 {MX mm : Mem} {f : Nat → Int64} (e1 : MX.length = 49) (e2 : mm.length = 11) : mget (LMm MX mm f) 60 = some (eJ 1 f) := by
  unfold LMm
  rw [mget_app, if_neg (by omega), mget_app, List.length_map, if_neg (by omega), e1, e2]
  rfl
theorem LM_set {MX mm : Mem} {f g : Nat → Int64} (e1 : MX.length = 49) (e2 : mm.length = 11) : mset (LMm MX mm f) 60 (eJ 1 g) = LMm MX mm g := by
  unfold LMm
  have h1 := mset_app MX (mm.map (rnE fM) ++ [eJ 1 f]) 11 (eJ 1 g)
  rw [e1] at h1
  have h2 := mset_app (mm.map (rnE fM)) [eJ 1 f] 0 (eJ 1 g)
  rw [List.length_map, e2] at h2
  rw [h1, h2]; rfl
theorem thr_at {t : Int32} {mm : Mem} {B : AS} (h : RM t mm B) {MX : Mem} (hX : MX.length = 49) (f : Nat → Int64) : Cl 20 kX6_thrown [.ref 49] (LMm MX mm f) (.inl (some (.int t))) (LMm MX mm f) := by
  obtain ⟨_, _, _, _, _, _, _, _, _, _, _, _, _, _, _, _, _, _, rfl, -⟩ := h
  exact Cl_rf (m_thrown (d := 19)) hX [eJ 1 f]
/-- a call that may throw: the method that catches, and the reference's -/
theorem o_thr {k k6 ml : Nat} {cd : Nat → Option Int32} {tc : Nat → Nat} {rows : List En} {av : List Value} {Z : Res × AS} {A : AS} {M : Mem} {gv : Int32 → Int64 → Prop} (hI : LJ M A A)
    (hc : ∀ MX, CR MX A → ∃ M', Cl 20 k (.ref 0 :: av) MX Z.1 M' ∧ CR M' Z.2) (hm : ∀ t mm, RM t mm A → RO tc k6 20 mm av Z) (hav : ∀ g, av.map (trV g) = av)
    (hwv : ∀ (M M1 : Mem) (v : Int32) (w : Int64) (f : Nat → Int64) (fs : List Value), Cl 20 k (.ref 0 :: av) M (.inl (some (.int v))) M1 → mget M 0 = some (eO 5 fs) → mget M1 60 = some (eJ 1 f) → gv v w → WRun 20 cd rows ml (.ref 0 :: (av ++ [.ref 60])) M 0 (mset M1 60 (eJ 1 (vp_updL f 0 w))))
    (hwt : ∀ (M M1 : Mem) (x : Int32) (e : Nat) (fs : List Value), Cl 20 k (.ref 0 :: av) M (.inr e) M1 → mget M 0 = some (eO 5 fs) → cd e = some x → WRun 20 cd rows ml (.ref 0 :: (av ++ [.ref 60])) M x M1)
    (hgv : ∀ v, ∃ w, gv v w) (hZ : (∃ v, Z.1 = .inl (some (.int v))) ∨ ∃ e, Z.1 = .inr e ∧ cd e = some (nI (tc e)) ∧ ¬ nI (tc e) = 0)
    (hr6 : mR k6 = some .int ∨ mR k6 = some .boolean) (hs6 : (mP k6).all (fun e => nsw e.2.1) = true) (h96 : ¬ k6 = 1999) :
    ∃ (x : Int32) (M1 : Mem) (u : Int32) (M2 : Mem) (f2 : Nat → Int64), WRun 20 cd rows ml (.ref 0 :: (av ++ [.ref 60])) M x M1 ∧ M1.length = M.length ∧ (∃ fs, mget M1 49 = some (eO 6 fs)) ∧ Cl 20 k6 (.ref 49 :: av) M1 (.inl (some (.int u))) M2 ∧ (∃ fs, mget M2 49 = some (eO 6 fs)) ∧ Cl 20 kX6_thrown [.ref 49] M2 (.inl (some (.int x))) M2 ∧ mget M2 60 = some (eJ 1 f2) ∧ LJ M2 Z.2 Z.2 ∧ (x = 0 → gv u (f2 0)) := by
  have hI0 := LJ_0 hI
  have hIl := LJ_len hI
  obtain ⟨MX, t0, mm, f, hCR, hRM, rfl⟩ := hI
  obtain ⟨fs, hfs⟩ := hI0
  obtain ⟨MX', hcl, hCR'⟩ := hc MX hCR
  obtain ⟨v, t, mm', hcm, hRM', hag⟩ := hm t0 mm hRM
  obtain ⟨u, rfl⟩ := Cl_int hcm hr6 hs6 h96
  have e1 := CR_len hCR
  have e1' := CR_len hCR'
  have e2 := RM_len hRM
  have e2' := RM_len hRM'
  have hcl2 := Cl_fr hcl (mm.map (rnE fM) ++ [eJ 1 f])
  have hcm2 : ∀ g, Cl 20 k6 (.ref 49 :: av) (LMm MX' mm g) (.inl (some (.int u))) (LMm MX' mm' g) := fun g => by
    have h := Cl_rf hcm e1' [eJ 1 g]
    rw [List.map_cons, hav] at h
    exact h
  rcases hZ with ⟨v0, hz⟩ | ⟨e, hz, hcd, hnz⟩
  · rw [hz] at hcl2 hag
    obtain ⟨hu, ht⟩ := hag
    have hu : u = v0 := by injection hu
    subst hu
    obtain ⟨w, hw⟩ := hgv u
    have hrun := hwv _ _ u w f fs hcl2 hfs (LM_60 e1' e2) hw
    rw [show MX' ++ (mm.map (rnE fM) ++ [eJ 1 f]) = LMm MX' mm f from rfl, LM_set e1' e2] at hrun
    have hI1 : LJ (LMm MX' mm (vp_updL f 0 w)) Z.2 A := ⟨MX', t0, mm, _, hCR', hRM, rfl⟩
    have hI2 : LJ (LMm MX' mm' (vp_updL f 0 w)) Z.2 Z.2 := ⟨MX', t, mm', _, hCR', hRM', rfl⟩
    refine ⟨0, _, u, _, vp_updL f 0 w, hrun, by rw [LJ_len hI1, hIl], LJ_49 hI1, hcm2 _, LJ_49 hI2, ?_, LM_60 e1' e2', hI2, fun _ => ?_⟩
    · have h := thr_at hRM' e1' (vp_updL f 0 w)
      rw [ht] at h
      exact h
    · show gv u (if 0 = 0 then w else f 0)
      rw [if_pos rfl]; exact hw
  · rw [hz] at hcl2 hag
    have hag : t = nI (tc e) := hag
    have hrun := hwt _ _ _ e fs hcl2 hfs hcd
    have hI1 : LJ (LMm MX' mm f) Z.2 A := ⟨MX', t0, mm, _, hCR', hRM, rfl⟩
    have hI2 : LJ (LMm MX' mm' f) Z.2 Z.2 := ⟨MX', t, mm', _, hCR', hRM', rfl⟩
    refine ⟨nI (tc e), _, u, _, f, hrun, by rw [show MX' ++ (mm.map (rnE fM) ++ [eJ 1 f]) = LMm MX' mm f from rfl, LJ_len hI1, hIl], LJ_49 hI1, hcm2 _, LJ_49 hI2, ?_, LM_60 e1' e2', hI2, fun z => absurd z hnz⟩
    have h := thr_at hRM' e1' f
    rw [hag] at h
    exact h
/-- a call that returns in both -/
theorem o_ret {k k6 : Nat} {tc : Nat → Nat} {av : List Value} {Z : Res × AS} {A : AS} {M : Mem} {w : Value} (hI : LJ M A A)
    (hc : ∀ MX, CR MX A → ∃ M', Cl 20 k (.ref 0 :: av) MX Z.1 M' ∧ CR M' Z.2) (hm : ∀ t mm, RM t mm A → RO tc k6 20 mm av Z) (hav : ∀ g, av.map (trV g) = av) (hZ : Z.1 = .inl (some w)) (hw : ∀ g, trV g w = w) :
    ∃ (M1 M2 : Mem), Cl 20 k (.ref 0 :: av) M (.inl (some w)) M1 ∧ (∃ fs, mget M1 49 = some (eO 6 fs)) ∧ Cl 20 k6 (.ref 49 :: av) M1 (.inl (some w)) M2 ∧ LJ M2 Z.2 Z.2 := by
  obtain ⟨MX, t0, mm, f, hCR, hRM, rfl⟩ := hI
  obtain ⟨MX', hcl, hCR'⟩ := hc MX hCR
  obtain ⟨v, t, mm', hcm, hRM', hag⟩ := hm t0 mm hRM
  have e1' := CR_len hCR'
  rw [hZ] at hcl hag
  obtain ⟨rfl, ht⟩ := hag
  have hcl2 := Cl_fr hcl (mm.map (rnE fM) ++ [eJ 1 f])
  have h := Cl_rf hcm e1' [eJ 1 f]
  rw [List.map_cons, hav] at h
  have h : Cl 20 k6 (.ref 49 :: av) (LMm MX' mm f) (.inl (some (trV fM v))) (LMm MX' mm' f) := h
  rw [hw] at h
  exact ⟨LMm MX' mm f, LMm MX' mm' f, hcl2, LJ_49 ⟨MX', t0, mm, f, hCR', hRM, rfl⟩, h, ⟨MX', t, mm', f, hCR', hRM', rfl⟩⟩
