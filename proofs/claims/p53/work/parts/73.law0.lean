/-! the law's first cells: the class's object, the reference's, the answer's -/
theorem wzf_ext {D : va_G} {cI cL cS : ClassId} {as as' : Nat → Nat} : ∀ (M : Mem) (k : Nat), (∀ j, j < M.length → as (k + j) = as' (k + j)) → (∀ e ∈ M, trE (D, cI, cL, cS, as) e = trE (D, cI, cL, cS, as') e) → wzf (D, cI, cL, cS, as) k M = wzf (D, cI, cL, cS, as') k M := by
  intro M
  induction M with
  | nil => intro k _ _; rfl
  | cons a r ih =>
    intro k h1 h2
    show (as k, trE (D, cI, cL, cS, as) a) :: wzf (D, cI, cL, cS, as) (k + 1) r = (as' k, trE (D, cI, cL, cS, as') a) :: wzf (D, cI, cL, cS, as') (k + 1) r
    have e0 : as k = as' k := h1 0 (Nat.succ_pos _)
    rw [ih (k + 1) (fun j hj => by
      have z := h1 (j + 1) (Nat.succ_lt_succ hj)
      rw [show k + (j + 1) = k + 1 + j by omega] at z
      exact z) (fun e he => h2 e (List.mem_cons_of_mem _ he)), h2 a List.mem_cons_self, e0]
def asL (u : Nat → Nat) (b : Nat) : Nat → Nat := fun i => bif Nat.ble 49 i then b else u i
theorem asL_u {u : Nat → Nat} {b i : Nat} (h : i < 49) : asL u b i = u i := by
  unfold asL
  cases hb : Nat.ble 49 i with
  | true => exact absurd (Nat.le_of_ble_eq_true hb) (by omega)
  | false => rfl
theorem svF_lt {j x : Nat} (h : svF 0 j = some x) : x < 49 := by
  unfold svF at h
  by_cases hj : j < 5
  · rw [if_pos hj] at h
    have h := Option.some.inj h
    omega
  · rw [if_neg hj] at h
    cases h
theorem trE_svF {D : va_G} {cI cL cS : ClassId} {u : Nat → Nat} {b : Nat} : trE (D, cI, cL, cS, asL u b) (eR 5 (svF 0)) = trE (D, cI, cL, cS, u) (eR 5 (svF 0)) := by
  have e : (fun j => (svF 0 j).map (asL u b)) = (fun j => (svF 0 j).map u) := by
    funext j
    cases hx : svF 0 j with
    | none => rfl
    | some x => exact congrArg some (asL_u (svF_lt hx))
  exact congrArg (fun g => (Sum.inl (cS, 5, .inr (.inr (.inr (.inr g)))) : va_E)) e
set_option maxRecDepth 100000 in
theorem wzf_5 {D : va_G} {cI cL cS : ClassId} {u : Nat → Nat} {b : Nat} : wzf (D, cI, cL, cS, asL u b) 0 mN_X5 = wzf (D, cI, cL, cS, u) 0 mN_X5 := by
  refine wzf_ext mN_X5 0 (fun j hj => asL_u (by have hj : j < 49 := hj; omega)) ?_
  unfold mN_X5 cM
  refine List.forall_mem_cons.mpr ⟨rfl, ?_⟩
  refine List.forall_mem_cons.mpr ⟨rfl, ?_⟩
  refine List.forall_mem_cons.mpr ⟨rfl, ?_⟩
  refine List.forall_mem_cons.mpr ⟨rfl, ?_⟩
  refine List.forall_mem_cons.mpr ⟨rfl, ?_⟩
  refine List.forall_mem_cons.mpr ⟨rfl, ?_⟩
  refine List.forall_mem_cons.mpr ⟨rfl, ?_⟩
  refine List.forall_mem_cons.mpr ⟨rfl, ?_⟩
  refine List.forall_mem_cons.mpr ⟨rfl, ?_⟩
  refine List.forall_mem_cons.mpr ⟨rfl, ?_⟩
  refine List.forall_mem_cons.mpr ⟨rfl, ?_⟩
  refine List.forall_mem_cons.mpr ⟨trE_svF, ?_⟩
  refine List.forall_mem_cons.mpr ⟨rfl, ?_⟩
  refine List.forall_mem_cons.mpr ⟨rfl, ?_⟩
  refine List.forall_mem_cons.mpr ⟨rfl, ?_⟩
  refine List.forall_mem_cons.mpr ⟨rfl, ?_⟩
  refine List.forall_mem_cons.mpr ⟨rfl, ?_⟩
  refine List.forall_mem_cons.mpr ⟨rfl, ?_⟩
  refine List.forall_mem_cons.mpr ⟨rfl, ?_⟩
  refine List.forall_mem_cons.mpr ⟨rfl, ?_⟩
  refine List.forall_mem_cons.mpr ⟨rfl, ?_⟩
  refine List.forall_mem_cons.mpr ⟨rfl, ?_⟩
  refine List.forall_mem_cons.mpr ⟨rfl, ?_⟩
  refine List.forall_mem_cons.mpr ⟨rfl, ?_⟩
  refine List.forall_mem_cons.mpr ⟨rfl, ?_⟩
  refine List.forall_mem_cons.mpr ⟨rfl, ?_⟩
  refine List.forall_mem_cons.mpr ⟨rfl, ?_⟩
  refine List.forall_mem_cons.mpr ⟨rfl, ?_⟩
  refine List.forall_mem_cons.mpr ⟨rfl, ?_⟩
  refine List.forall_mem_cons.mpr ⟨rfl, ?_⟩
  refine List.forall_mem_cons.mpr ⟨rfl, ?_⟩
  refine List.forall_mem_cons.mpr ⟨rfl, ?_⟩
  refine List.forall_mem_cons.mpr ⟨rfl, ?_⟩
  refine List.forall_mem_cons.mpr ⟨rfl, ?_⟩
  refine List.forall_mem_cons.mpr ⟨rfl, ?_⟩
  refine List.forall_mem_cons.mpr ⟨rfl, ?_⟩
  refine List.forall_mem_cons.mpr ⟨rfl, ?_⟩
  refine List.forall_mem_cons.mpr ⟨rfl, ?_⟩
  refine List.forall_mem_cons.mpr ⟨rfl, ?_⟩
  refine List.forall_mem_cons.mpr ⟨rfl, ?_⟩
  refine List.forall_mem_cons.mpr ⟨rfl, ?_⟩
  refine List.forall_mem_cons.mpr ⟨rfl, ?_⟩
  refine List.forall_mem_cons.mpr ⟨rfl, ?_⟩
  refine List.forall_mem_cons.mpr ⟨rfl, ?_⟩
  refine List.forall_mem_cons.mpr ⟨rfl, ?_⟩
  refine List.forall_mem_cons.mpr ⟨rfl, ?_⟩
  refine List.forall_mem_cons.mpr ⟨rfl, ?_⟩
  refine List.forall_mem_cons.mpr ⟨rfl, ?_⟩
  refine List.forall_mem_cons.mpr ⟨rfl, ?_⟩
  intro e he
  cases he
section MKL
variable {p : Program} {l : Launch} {e : Jvm.Env} {R : Room} {s : State} {m : MethodId} {args : Array Value} {below : List Frame} {meth : Method} {c : Code} {cells slots : Nat} {Q : State → Prop} {A : Nat → Prop} {H0 H : Heap} {cc : ByteArray} {locs : List Loc} {D : va_G} {cI cL cS : ClassId} {ws : va_W} {pc : Nat} {ls : Array Slot} {rest : List Value}
set_option maxHeartbeats 4000000 in
/-- new C(), called over a class's bounds -/
theorem mkLw {nL ml : Nat} {own : String} (hx : p.tables.exec = Jvm.exec) (hb : c.code = cc) (hml : c.maxLocals = nL) (hts : ∀ w ∈ TT, w.before args s = true) (hown : s.vm.findClass own = some m.cls) (hK : va_K D vwCl (tys3 cI cL cS) s) (hP : va_P D vwCl ws H) (hD : va_D A ws) (hS : va_S A H0 H locs) (hA : ∀ q, H0.size ≤ q → A q)
    {C : String} {T : u_T} {N ci ik ic : Nat} {y : MethodName} {bytes : ByteArray} {fs : List Value} {M0 : Mem} {mc ms : Nat} {rm : Room} {ty : Nat → FieldType} {Pc : Nat → Nat → Array Value → State → Prop} (hc : vwCl[ci]? = some (C, T, N)) (hcls : ∀ w ∈ u_ws C T N, w ∈ TT) (hty : ∀ k, k < N → parseFieldDescriptor (T k).2.2.1 = some (ty k)) (hfs : ∀ j, j < N → defaultValue (ty j) = vp_V fs j)
    (hM : ∀ h0 sz, Met l y (Cond.code y bytes ml none :: TT) rm (Pc h0 sz) (PostN D cI cL cS M0 ci fs h0 sz) mc ms (va_A [(h0, .inr (ci, fs))] sz)) (hbl : ∀ h0 sz, FrameBlind (Pc h0 sz)) (hpc : ∀ (h0 sz : Nat) (U : State), s.WarmedH U.vm → PreN D cI cL cS ci fs h0 sz #[.ref h0] U → Pc h0 sz #[.ref h0] U)
    (w1 : Cond.classLink own ik C ∈ TT) (w2 : Cond.instantiable C N ∈ TT) (w3 : Cond.initialized C ∈ TT) (hyc : y.cls = C) (hyn : y.name = "<init>") (hyd : y.cls ≠ "java/lang/invoke/MethodHandle" ∧ y.cls ≠ "java/lang/invoke/VarHandle" ∧ (parseMethodDescriptor y.desc).map (fun d => d.parameters.length) = some 0) (w4 : Cond.code y bytes ml none ∈ TT) (w5 : Cond.instanceMethod y ∈ TT) (w6 : Cond.methodLink own ic y ∈ TT)
    (hrm : rm.cells = mc ∧ rm.slots = ms ∧ rm.frames + 1 ≤ R.frames ∧ 8 + (ml + 11) + rm.locals ≤ R.locals) (hcells : cells + 1 + mc ≤ R.cells) (hslots : slots + N + ms ≤ R.slots) (hl : ls.size = nL) (hw : ((Value.ref 0 :: rest).map fun v => v.category).sum ≤ 8)
    (d0 : decode cc pc = .ok (.new ik, 3)) (d3 : decode cc (pc + 3) = .ok (.dup, 1)) (d4 : decode cc (pc + 4) = .ok (.invokespecial ic, 3))
    (kk : ∀ (u : Nat → Nat) (H1 : Heap) (locs1 : List Loc), va_P D vwCl (ws ++ wzf (D, cI, cL, cS, u) 0 M0) H1 → va_D A (ws ++ wzf (D, cI, cL, cS, u) 0 M0) → va_S A H0 H1 locs1 → W p l e R s m args below meth c H1 locs1 (cells + 1 + mc) (slots + N + ms) Q (F0 m (pc + 7) ls (.ref (u 0) :: rest))) : W p l e R s m args below meth c H locs cells slots Q (F0 m pc ls rest) := by
  refine va_new (ci := ci) (fs := fs) (C := C) (T := T) (N := N) hx hb hts hcls ty hty hown (hts _ w1) (hts _ w2) (hts _ w3) hK hP hD hS hA hc hfs (by omega) (by omega) d0 (fun q H1 hP hD hS => ?_)
  refine lv_dup hx hb d3 rfl ?_
  have hPc : va_P D vwCl [(q, .inr (ci, fs))] H1 := fun k x hk => hP (ws.length + k) x (by rw [List.getElem?_append_right (Nat.le_add_right _ _), Nat.add_sub_cancel_left]; exact hk)
  have hr := va_runI (l := l) (e := e) (R := R) (below := below) (meth := meth) (locs := locs) (cells := cells + 1) (slots := slots + N) (g := F0 m (pc + 4) ls (.ref q :: .ref q :: rest)) (H := H1) (As := []) (rest := .ref q :: rest) (Ts := TT) ⟨hx, hb, hml, hown, hts⟩ (hM q H1.size)
    (cwI (R := R) 0 hts (fun w hw => by
      rcases List.mem_cons.mp hw with h | h
      · rw [h]; exact TT_good w4
      · exact TT_good h) rfl hrm.1 hrm.2.1 (hts _ (by rw [hyc]; exact w3)) (hts _ w6) (hts _ w5) hyn hyd hrm.2.2)
    ⟨hbl q H1.size, fun U hU hW => hpc q H1.size U hW ⟨rfl, by rw [hU], by rw [hU]; exact hPc, va_K.moved hW.alike hK⟩⟩ rfl rfl hl rfl (lv_room hw) d4 ⟨hcells, hslots⟩
  refine va_run_N hr hP hD hS hA (fun u H2 locs2 hu hP hD hS => ?_)
  have h9 := kk u H2 locs2 hP hD hS
  rw [hu] at h9
  exact h9
end MKL
theorem preN5_blind {D : va_G} {cI cL cS : ClassId} {fs : List Value} {h0 sz : Nat} : FrameBlind (PreN5 D cI cL cS fs h0 sz) := by
  intro a U g mk h
  obtain ⟨q1, q2, q5, q6⟩ := h
  exact ⟨preN_blind a U g mk q1, nw_same (u := U) (U := U.calling g mk a) rfl q2, nw2_same (u := U) (U := U.calling g mk a) rfl q5, va_AO.moved (u := U) (U := U.calling g mk a) (Vm.Alike.refl U.vm) q6⟩
