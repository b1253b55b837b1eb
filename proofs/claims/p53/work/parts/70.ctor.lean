/-! constructors: what they make -/
abbrev tys3 (cI cL cS : ClassId) : List (ClassId × FieldType) := [(cI, .int), (cL, .int), (cS, .object RX3)]
def PreN (D : va_G) (cI cL cS : ClassId) (ci : Nat) (fs : List Value) (h0 sz : Nat) : Array Value → State → Prop := va_Pc [.ref h0] (fun U => U.heap.size = sz ∧ va_P D vwCl [(h0, .inr (ci, fs))] U.heap ∧ va_K D vwCl (tys3 cI cL cS) U)
def PostN (D : va_G) (cI cL cS : ClassId) (M0 : Mem) (ci : Nat) (fs : List Value) (h0 sz : Nat) : Array Value → State → Outcome → State → Prop := fun _ st oc t =>
  (oc = .returned none ∧ ∃ u : Nat → Nat, u 0 = h0 ∧ va_P D vwCl (wzf (D, cI, cL, cS, u) 0 M0) t.heap ∧ va_D (va_A [(h0, .inr (ci, fs))] sz) (wzf (D, cI, cL, cS, u) 0 M0)) ∧ va_F (va_A [(h0, .inr (ci, fs))] sz) st t
theorem preN_blind {D : va_G} {cI cL cS : ClassId} {ci : Nat} {fs : List Value} {h0 sz : Nat} : FrameBlind (PreN D cI cL cS ci fs h0 sz) := by
  intro a U g mk h
  obtain ⟨q0, q1, qP, qK⟩ := h
  exact ⟨q0, q1, qP, va_K.moved (u := U) (U := U.calling g mk a) (Vm.Alike.refl U.vm) qK⟩
section AL
variable {p : Program} {l : Launch} {e : Jvm.Env} {R : Room} {s : State} {m : MethodId} {args : Array Value} {below : List Frame} {meth : Method} {c : Code} {cells slots : Nat} {Q : State → Prop} {A : Nat → Prop} {H0 H : Heap} {cc : ByteArray} {locs : List Loc} {D : va_G} {cI cL cS : ClassId} {ws : va_W} {pc : Nat} {ls : Array Slot} {rest : List Value}
theorem ty_same {cl : List vw_C} {tys : List (ClassId × FieldType)} (h : va_K D cl tys s) {i j : Nat} {c1 c2 : ClassId} (h1 : tys[i]? = some (c1, .int)) (h2 : tys[j]? = some (c2, .int)) : c1 = c2 := by
  have a : s.vm.findClass ("[" ++ (FieldType.int).toString) = some c1 := (h.2 i _ h1).2
  have b : s.vm.findClass ("[" ++ (FieldType.int).toString) = some c2 := (h.2 j _ h2).2
  exact Option.some.inj (a.symm.trans b)
theorem ty_sameS {cl : List vw_C} {tys : List (ClassId × FieldType)} (h : va_K D cl tys s) {i j : Nat} {c1 c2 : ClassId} (h1 : tys[i]? = some (c1, .object RX3)) (h2 : tys[j]? = some (c2, .object RX3)) : c1 = c2 := by
  obtain ⟨_, _, _, _, _, a⟩ := (h.2 i _ h1).2
  obtain ⟨_, _, _, _, _, b⟩ := (h.2 j _ h2).2
  exact Option.some.inj (a.symm.trans b)
theorem al_newi (hx : p.tables.exec = Jvm.exec) (hb : c.code = cc) (harr : (Cond.arrayClass .int).before args s = true) (hK : va_K D vwCl (tys3 cI cL cS) s) (hP : va_P D vwCl ws H) (hD : va_D A ws) (hS : va_S A H0 H locs) (hA : ∀ q, H0.size ≤ q → A q) {n : Nat} (hn : n ≤ 2000) (hcells : cells + 1 ≤ R.cells) (hslots : slots + n ≤ R.slots) (hdg : decode cc pc = .ok (.newarray .int, 2))
    (kk : ∀ (q : Nat) (H1 : Heap), va_P D vwCl (ws ++ [(q, .inl (cI, n, .inl (fun _ => 0)))]) H1 → va_D A (ws ++ [(q, .inl (cI, n, .inl (fun _ => 0)))]) → va_S A H0 H1 locs → W p l e R s m args below meth c H1 locs (cells + 1) (slots + n) Q (F0 m (pc + 2) ls (.ref q :: rest))) : W p l e R s m args below meth c H locs cells slots Q (F0 m pc ls (.int (nI n) :: rest)) := by
  refine va_newa (atype := .int) (ty := .int) hx hb harr rfl hK hP hD hS hA (N' := n) (a0 := (n, .inl (fun _ => 0))) (fun _ => rfl) (nI_pos (by omega)) (nI_clamp (by omega)) (by show n * 4 ≤ _; omega) hcells hslots hdg (fun q cA H1 hK1 hP1 hD1 hS1 => ?_)
  obtain rfl : cI = cA := ty_same hK1 (i := 0) (j := 3) rfl rfl
  exact kk q H1 hP1 hD1 hS1
theorem va_D_1 {q : Nat} {e0 : va_E} (h : A q) : va_D A [(q, e0)] := by
  refine ⟨fun i j x y hx hy _ => ?_, fun k x hx => ?_⟩
  · have h1 := (List.getElem?_eq_some_iff.mp hx).1
    have h2 := (List.getElem?_eq_some_iff.mp hy).1
    have h1 : i < 1 := h1
    have h2 : j < 1 := h2
    omega
  · have h1 : k < 1 := (List.getElem?_eq_some_iff.mp hx).1
    rw [show k = 0 by omega] at hx
    cases hx
    exact h
/-- the rest of a world stays, what came back beside it -/
theorem fr_app {cl : List vw_C} {wc w1 : va_W} {H1 : Heap} (hP : va_P D cl (ws ++ wc) H) (hD : va_D A (ws ++ wc)) (hk : ∀ q : Nat, q < H.size → ¬ va_A wc H.size q → H1[q]? = H[q]?) (hF : ∀ q, va_A wc H.size q → A q) (hP1 : va_P D cl w1 H1) (hD1 : va_D (va_A wc H.size) w1) : va_P D cl (ws ++ w1) H1 ∧ va_D A (ws ++ w1) := by
  have hw : ∀ (k : Nat) (x : Nat × va_E), ws[k]? = some x → x.1 < H.size ∧ ¬ va_A wc H.size x.1 := by
    intro k x hx
    have hkl := (List.getElem?_eq_some_iff.mp hx).1
    have hx2 : (ws ++ wc)[k]? = some x := by rw [List.getElem?_append_left hkl]; exact hx
    refine ⟨(hP k x hx2).lt, fun z => ?_⟩
    rcases z with ⟨j, e, hj⟩ | z
    · have hj2 : (ws ++ wc)[ws.length + j]? = some (x.1, e) := by rw [List.getElem?_append_right (Nat.le_add_right _ _), Nat.add_sub_cancel_left]; exact hj
      have := hD.1 k (ws.length + j) _ _ hx2 hj2 rfl
      omega
    · exact Nat.not_lt.mpr z (hP k x hx2).lt
  refine ⟨va_P.app (fun k x hx => ?_) hP1, fun i j x y hx hy hxy => ?_, fun k x hx => ?_⟩
  · have hkl := (List.getElem?_eq_some_iff.mp hx).1
    have hx2 : (ws ++ wc)[k]? = some x := by rw [List.getElem?_append_left hkl]; exact hx
    exact (hP k x hx2).kept (hk _ (hw k x hx).1 (hw k x hx).2)
  · by_cases hi : i < ws.length
    · by_cases hj : j < ws.length
      · rw [List.getElem?_append_left hi] at hx
        rw [List.getElem?_append_left hj] at hy
        exact hD.1 i j x y (by rw [List.getElem?_append_left hi]; exact hx) (by rw [List.getElem?_append_left hj]; exact hy) hxy
      · rw [List.getElem?_append_left hi] at hx
        rw [List.getElem?_append_right (by omega)] at hy
        exact absurd (hxy ▸ hD1.2 _ _ hy) (hw i x hx).2
    · by_cases hj : j < ws.length
      · rw [List.getElem?_append_right (by omega)] at hx
        rw [List.getElem?_append_left hj] at hy
        exact absurd (hxy ▸ hD1.2 _ _ hx) (hw j y hy).2
      · rw [List.getElem?_append_right (by omega)] at hx hy
        have := hD1.1 _ _ x y hx hy hxy
        omega
  · by_cases hi : k < ws.length
    · rw [List.getElem?_append_left hi] at hx
      exact hD.2 k x (by rw [List.getElem?_append_left hi]; exact hx)
    · rw [List.getElem?_append_right (by omega)] at hx
      exact hF _ (hD1.2 _ _ hx)
theorem va_run_N {fs : List Value} {ci mc ms h0 : Nat} {M0 : Mem} {st0 : List Value} (hr : va_Run p l e R s m args below meth c H locs cells slots mc ms (F0 m pc ls st0) rest (PostN D cI cL cS M0 ci fs h0 H.size (#[.ref h0])) (va_A [(h0, .inr (ci, fs))] H.size))
    (hP : va_P D vwCl (ws ++ [(h0, .inr (ci, fs))]) H) (hD : va_D A (ws ++ [(h0, .inr (ci, fs))])) (hS : va_S A H0 H locs) (hA : ∀ q, H0.size ≤ q → A q)
    (kk : ∀ (u : Nat → Nat) (H1 : Heap) (locs1 : List Loc), u 0 = h0 → va_P D vwCl (ws ++ wzf (D, cI, cL, cS, u) 0 M0) H1 → va_D A (ws ++ wzf (D, cI, cL, cS, u) 0 M0) → va_S A H0 H1 locs1 → W p l e R s m args below meth c H1 locs1 (cells + mc) (slots + ms) Q (F0 m (pc + 3) ls rest)) : W p l e R s m args below meth c H locs cells slots Q (F0 m pc ls st0) := by
  have hF : ∀ q, va_A [(h0, .inr (ci, fs))] H.size q → A q := by
    intro q z
    rcases z with ⟨j, e, hj⟩ | z
    · have h1 : j < 1 := (List.getElem?_eq_some_iff.mp hj).1
      rw [show j = 0 by omega] at hj
      cases hj
      exact hD.2 ws.length _ (by rw [List.getElem?_append_right (Nat.le_refl _), Nat.sub_self]; rfl)
    · exact hA q (Nat.le_trans hS.1 z)
  intro T hT X
  obtain ⟨v, st₀, t, T', L, g0, X', hL, e1, e2, ⟨⟨hv, u, hu, hP1, hD1⟩, hz, hk⟩, st⟩ := hr T hT X
  cases hv
  rw [g0] at hz hk
  have hj := fr_app hP hD (fun q h1 h2 => by rw [← hk q h1 h2]) hF hP1 hD1
  rw [← e1] at hj
  obtain ⟨t2, a1, b1⟩ := kk u T'.heap (locs ++ L) hu hj.1 hj.2 ⟨Nat.le_trans hS.1 (by rw [e1]; exact hz), fun q h1 h2 => by rw [e1, hk q (Nat.lt_of_lt_of_le h1 hS.1) (fun z => h2 (hF q z))]; exact hS.2.1 q h1 h2, fun q hq => by
      rcases List.mem_append.mp hq with h | h
      · exact hS.2.2 q h
      · exact hF _ (hL q h)⟩ T' rfl X'
  exact ⟨t2, st t2 a1, b1⟩
end AL
theorem dX0_init_0 : decode cX0_init 0 = .ok (.aload_n 0, 1) := by decide +kernel
theorem dX0_init_1 : decode cX0_init 1 = .ok (.invokespecial 3, 3) := by decide +kernel
theorem dX0_init_4 : decode cX0_init 4 = .ok (.aload_n 0, 1) := by decide +kernel
theorem dX0_init_5 : decode cX0_init 5 = .ok (.bipush 36, 2) := by decide +kernel
theorem dX0_init_7 : decode cX0_init 7 = .ok (.newarray .int, 2) := by decide +kernel
theorem dX0_init_9 : decode cX0_init 9 = .ok (.putfield 9, 3) := by decide +kernel
theorem dX0_init_12 : decode cX0_init 12 = .ok (.aload_n 0, 1) := by decide +kernel
theorem dX0_init_13 : decode cX0_init 13 = .ok (.bipush 27, 2) := by decide +kernel
theorem dX0_init_15 : decode cX0_init 15 = .ok (.newarray .int, 2) := by decide +kernel
theorem dX0_init_17 : decode cX0_init 17 = .ok (.putfield 15, 3) := by decide +kernel
theorem dX0_init_20 : decode cX0_init 20 = .ok (.aload_n 0, 1) := by decide +kernel
theorem dX0_init_21 : decode cX0_init 21 = .ok (.sipush 1536, 3) := by decide +kernel
theorem dX0_init_24 : decode cX0_init 24 = .ok (.newarray .int, 2) := by decide +kernel
theorem dX0_init_26 : decode cX0_init 26 = .ok (.putfield 18, 3) := by decide +kernel
theorem dX0_init_29 : decode cX0_init 29 = .ok (.aload_n 0, 1) := by decide +kernel
theorem dX0_init_30 : decode cX0_init 30 = .ok (.bipush 20, 2) := by decide +kernel
theorem dX0_init_32 : decode cX0_init 32 = .ok (.newarray .int, 2) := by decide +kernel
theorem dX0_init_34 : decode cX0_init 34 = .ok (.putfield 21, 3) := by decide +kernel
theorem dX0_init_37 : decode cX0_init 37 = .ok (.aload_n 0, 1) := by decide +kernel
theorem dX0_init_38 : decode cX0_init 38 = .ok (.iconst 4, 1) := by decide +kernel
theorem dX0_init_39 : decode cX0_init 39 = .ok (.newarray .int, 2) := by decide +kernel
theorem dX0_init_41 : decode cX0_init 41 = .ok (.putfield 24, 3) := by decide +kernel
theorem dX0_init_44 : decode cX0_init 44 = .ok (.return_, 1) := by decide +kernel
theorem dX1_init_0 : decode cX1_init 0 = .ok (.aload_n 0, 1) := by decide +kernel
theorem dX1_init_1 : decode cX1_init 1 = .ok (.invokespecial 3, 3) := by decide +kernel
theorem dX1_init_4 : decode cX1_init 4 = .ok (.aload_n 0, 1) := by decide +kernel
theorem dX1_init_5 : decode cX1_init 5 = .ok (.iconst 4, 1) := by decide +kernel
theorem dX1_init_6 : decode cX1_init 6 = .ok (.newarray .int, 2) := by decide +kernel
theorem dX1_init_8 : decode cX1_init 8 = .ok (.putfield 9, 3) := by decide +kernel
theorem dX1_init_11 : decode cX1_init 11 = .ok (.return_, 1) := by decide +kernel
theorem dX2_init_0 : decode cX2_init 0 = .ok (.aload_n 0, 1) := by decide +kernel
theorem dX2_init_1 : decode cX2_init 1 = .ok (.invokespecial 3, 3) := by decide +kernel
theorem dX2_init_4 : decode cX2_init 4 = .ok (.aload_n 0, 1) := by decide +kernel
theorem dX2_init_5 : decode cX2_init 5 = .ok (.bipush 9, 2) := by decide +kernel
theorem dX2_init_7 : decode cX2_init 7 = .ok (.newarray .int, 2) := by decide +kernel
theorem dX2_init_9 : decode cX2_init 9 = .ok (.putfield 9, 3) := by decide +kernel
theorem dX2_init_12 : decode cX2_init 12 = .ok (.return_, 1) := by decide +kernel
theorem dX3_init_0 : decode cX3_init 0 = .ok (.aload_n 0, 1) := by decide +kernel
theorem dX3_init_1 : decode cX3_init 1 = .ok (.invokespecial 3, 3) := by decide +kernel
theorem dX3_init_4 : decode cX3_init 4 = .ok (.aload_n 0, 1) := by decide +kernel
theorem dX3_init_5 : decode cX3_init 5 = .ok (.iconst 4, 1) := by decide +kernel
theorem dX3_init_6 : decode cX3_init 6 = .ok (.newarray .int, 2) := by decide +kernel
theorem dX3_init_8 : decode cX3_init 8 = .ok (.putfield 9, 3) := by decide +kernel
theorem dX3_init_11 : decode cX3_init 11 = .ok (.aload_n 0, 1) := by decide +kernel
theorem dX3_init_12 : decode cX3_init 12 = .ok (.bipush 20, 2) := by decide +kernel
theorem dX3_init_14 : decode cX3_init 14 = .ok (.newarray .int, 2) := by decide +kernel
theorem dX3_init_16 : decode cX3_init 16 = .ok (.putfield 15, 3) := by decide +kernel
theorem dX3_init_19 : decode cX3_init 19 = .ok (.aload_n 0, 1) := by decide +kernel
theorem dX3_init_20 : decode cX3_init 20 = .ok (.bipush 20, 2) := by decide +kernel
theorem dX3_init_22 : decode cX3_init 22 = .ok (.newarray .int, 2) := by decide +kernel
theorem dX3_init_24 : decode cX3_init 24 = .ok (.putfield 18, 3) := by decide +kernel
theorem dX3_init_27 : decode cX3_init 27 = .ok (.aload_n 0, 1) := by decide +kernel
theorem dX3_init_28 : decode cX3_init 28 = .ok (.bipush 20, 2) := by decide +kernel
theorem dX3_init_30 : decode cX3_init 30 = .ok (.newarray .int, 2) := by decide +kernel
theorem dX3_init_32 : decode cX3_init 32 = .ok (.putfield 21, 3) := by decide +kernel
theorem dX3_init_35 : decode cX3_init 35 = .ok (.return_, 1) := by decide +kernel
theorem dX4_init_0 : decode cX4_init 0 = .ok (.aload_n 0, 1) := by decide +kernel
theorem dX4_init_1 : decode cX4_init 1 = .ok (.invokespecial 3, 3) := by decide +kernel
theorem dX4_init_4 : decode cX4_init 4 = .ok (.return_, 1) := by decide +kernel
theorem dX5_init_0 : decode cX5_init 0 = .ok (.aload_n 0, 1) := by decide +kernel
theorem dX5_init_1 : decode cX5_init 1 = .ok (.invokespecial 1, 3) := by decide +kernel
theorem dX5_init_4 : decode cX5_init 4 = .ok (.aload_n 0, 1) := by decide +kernel
theorem dX5_init_5 : decode cX5_init 5 = .ok (.new 7, 3) := by decide +kernel
theorem dX5_init_8 : decode cX5_init 8 = .ok (.dup, 1) := by decide +kernel
theorem dX5_init_9 : decode cX5_init 9 = .ok (.invokespecial 9, 3) := by decide +kernel
theorem dX5_init_12 : decode cX5_init 12 = .ok (.putfield 10, 3) := by decide +kernel
theorem dX5_init_15 : decode cX5_init 15 = .ok (.aload_n 0, 1) := by decide +kernel
theorem dX5_init_16 : decode cX5_init 16 = .ok (.new 7, 3) := by decide +kernel
theorem dX5_init_19 : decode cX5_init 19 = .ok (.dup, 1) := by decide +kernel
theorem dX5_init_20 : decode cX5_init 20 = .ok (.invokespecial 9, 3) := by decide +kernel
theorem dX5_init_23 : decode cX5_init 23 = .ok (.putfield 16, 3) := by decide +kernel
theorem dX5_init_26 : decode cX5_init 26 = .ok (.aload_n 0, 1) := by decide +kernel
theorem dX5_init_27 : decode cX5_init 27 = .ok (.iconst 5, 1) := by decide +kernel
theorem dX5_init_28 : decode cX5_init 28 = .ok (.anewarray 7, 3) := by decide +kernel
theorem dX5_init_31 : decode cX5_init 31 = .ok (.putfield 19, 3) := by decide +kernel
theorem dX5_init_34 : decode cX5_init 34 = .ok (.aload_n 0, 1) := by decide +kernel
theorem dX5_init_35 : decode cX5_init 35 = .ok (.bipush 60, 2) := by decide +kernel
theorem dX5_init_37 : decode cX5_init 37 = .ok (.newarray .int, 2) := by decide +kernel
theorem dX5_init_39 : decode cX5_init 39 = .ok (.putfield 23, 3) := by decide +kernel
theorem dX5_init_42 : decode cX5_init 42 = .ok (.aload_n 0, 1) := by decide +kernel
theorem dX5_init_43 : decode cX5_init 43 = .ok (.new 27, 3) := by decide +kernel
theorem dX5_init_46 : decode cX5_init 46 = .ok (.dup, 1) := by decide +kernel
theorem dX5_init_47 : decode cX5_init 47 = .ok (.invokespecial 29, 3) := by decide +kernel
theorem dX5_init_50 : decode cX5_init 50 = .ok (.putfield 30, 3) := by decide +kernel
theorem dX5_init_53 : decode cX5_init 53 = .ok (.aload_n 0, 1) := by decide +kernel
theorem dX5_init_54 : decode cX5_init 54 = .ok (.new 34, 3) := by decide +kernel
theorem dX5_init_57 : decode cX5_init 57 = .ok (.dup, 1) := by decide +kernel
theorem dX5_init_58 : decode cX5_init 58 = .ok (.invokespecial 36, 3) := by decide +kernel
theorem dX5_init_61 : decode cX5_init 61 = .ok (.putfield 37, 3) := by decide +kernel
theorem dX5_init_64 : decode cX5_init 64 = .ok (.aload_n 0, 1) := by decide +kernel
theorem dX5_init_65 : decode cX5_init 65 = .ok (.new 41, 3) := by decide +kernel
theorem dX5_init_68 : decode cX5_init 68 = .ok (.dup, 1) := by decide +kernel
theorem dX5_init_69 : decode cX5_init 69 = .ok (.invokespecial 43, 3) := by decide +kernel
theorem dX5_init_72 : decode cX5_init 72 = .ok (.putfield 44, 3) := by decide +kernel
theorem dX5_init_75 : decode cX5_init 75 = .ok (.aload_n 0, 1) := by decide +kernel
theorem dX5_init_76 : decode cX5_init 76 = .ok (.new 48, 3) := by decide +kernel
theorem dX5_init_79 : decode cX5_init 79 = .ok (.dup, 1) := by decide +kernel
theorem dX5_init_80 : decode cX5_init 80 = .ok (.invokespecial 50, 3) := by decide +kernel
theorem dX5_init_83 : decode cX5_init 83 = .ok (.putfield 51, 3) := by decide +kernel
theorem dX5_init_86 : decode cX5_init 86 = .ok (.aload_n 0, 1) := by decide +kernel
theorem dX5_init_87 : decode cX5_init 87 = .ok (.getfield 10, 3) := by decide +kernel
theorem dX5_init_90 : decode cX5_init 90 = .ok (.invokevirtual 55, 3) := by decide +kernel
theorem dX5_init_93 : decode cX5_init 93 = .ok (.iconst 0, 1) := by decide +kernel
theorem dX5_init_94 : decode cX5_init 94 = .ok (.istore_n 1, 1) := by decide +kernel
theorem dX5_init_95 : decode cX5_init 95 = .ok (.iload_n 1, 1) := by decide +kernel
theorem dX5_init_96 : decode cX5_init 96 = .ok (.iconst 5, 1) := by decide +kernel
theorem dX5_init_97 : decode cX5_init 97 = .ok (.if_icmp .ge 22, 3) := by decide +kernel
theorem dX5_init_100 : decode cX5_init 100 = .ok (.aload_n 0, 1) := by decide +kernel
theorem dX5_init_101 : decode cX5_init 101 = .ok (.getfield 19, 3) := by decide +kernel
theorem dX5_init_104 : decode cX5_init 104 = .ok (.iload_n 1, 1) := by decide +kernel
theorem dX5_init_105 : decode cX5_init 105 = .ok (.new 7, 3) := by decide +kernel
theorem dX5_init_108 : decode cX5_init 108 = .ok (.dup, 1) := by decide +kernel
theorem dX5_init_109 : decode cX5_init 109 = .ok (.invokespecial 9, 3) := by decide +kernel
theorem dX5_init_112 : decode cX5_init 112 = .ok (.aastore, 1) := by decide +kernel
theorem dX5_init_113 : decode cX5_init 113 = .ok (.iinc 1 1, 3) := by decide +kernel
theorem dX5_init_116 : decode cX5_init 116 = .ok (.goto (-21), 3) := by decide +kernel
theorem dX5_init_119 : decode cX5_init 119 = .ok (.return_, 1) := by decide +kernel
theorem w_oI : Cond.instanceMethod objectInit ∈ TT := wd_mem (p := 48) (by decide +kernel)
theorem w_oC : Cond.code objectInit ⟨#[0xb1]⟩ 1 none ∈ TT := wd_mem (p := 49) (by decide +kernel)
theorem w_aI : Cond.arrayClass .int ∈ TT := wd_mem (p := 90) (by decide +kernel)
def mN_X0 : Mem := [eO 0 [.int 0, .int 0, .ref 1, .ref 2, .ref 3, .ref 4, .ref 5], eI 36 (fun _ => 0), eI 27 (fun _ => 0), eI 1536 (fun _ => 0), eI 20 (fun _ => 0), eI 4 (fun _ => 0)]
set_option maxHeartbeats 4000000 in
theorem n_X0 {l : Launch} {D : va_G} {cI cL cS : ClassId} (h0 sz : Nat) : Met l yX0_init (Cond.code yX0_init cX0_init 1 none :: TT) { frames := 1, cells := 5, slots := 1623, locals := 12 } (PreN D cI cL cS 0 [.int 0, .int 0, .null, .null, .null, .null, .null] h0 sz) (PostN D cI cL cS mN_X0 0 [.int 0, .int 0, .null, .null, .null, .null, .null] h0 sz) 5 1623 (va_A [(h0, .inr (0, [.int 0, .int 0, .null, .null, .null, .null, .null]))] sz) := by
  refine Met.ofW (cc := cX0_init) (maxL := 1) (ret := none) (by decide) rfl ?_
  intro p e s m args below meth c s₁ B hml hv
  obtain ⟨rfl, hsz, hP, hK⟩ := hv
  have hx := B.exec
  have hb := B.bytes
  have hr := B.returns
  have hts0 := atoms_spec (ws := Cond.code yX0_init cX0_init 1 none :: TT) B.pre
  have hts : ∀ w ∈ TT, w.before _ s = true := fun w z => hts0 w (List.mem_cons_of_mem _ z)
  have hown : s.vm.findClass RX0 = some m.cls := findClass_of_methodNamed B.named
  have hlocks := B.notSynchronized
  have hin : meth.name = "<init>" := (name_of_methodNamed B.named B.method).1
  subst hsz
  have hD : va_D (va_A [(h0, .inr (0, [.int 0, .int 0, .null, .null, .null, .null, .null]))] s.heap.size) [(h0, .inr (0, [.int 0, .int 0, .null, .null, .null, .null, .null]))] := va_D_1 (Or.inl ⟨0, _, rfl⟩)
  generalize hAe : va_A [(h0, .inr (0, [.int 0, .int 0, .null, .null, .null, .null, .null]))] s.heap.size = A at hD ⊢
  have hA : ∀ q : Nat, s.heap.size ≤ q → A q := fun q h => by rw [← hAe]; exact Or.inr h
  have hS : va_S A s.heap s.heap [] := va_S.rf
  have hl := lv_entry ([.ref h0]) (n := 1) (Nat.le_of_ble_eq_true rfl)
  rw [lg_entry_eq]
  generalize (lg_sl ([.ref h0]) ++ List.replicate (1 - (lg_sl ([.ref h0])).length) Slot.unset).toArray = ls at hl ⊢
  have hl : lv_has ls 1 [(0, .ref h0)] := hl
  refine lv_aload_n hx hb dX0_init_0 rfl (lv_at hl 0 rfl) ?_
  obtain ⟨R0, hR0⟩ : ∃ R0 : Room, R0 = { frames := 1, cells := 5, slots := 1623, locals := 12 } := ⟨_, rfl⟩
  have hRc : R0.cells = 5 := by rw [hR0]
  have hRs : R0.slots = 1623 := by rw [hR0]
  refine W.objInit hx hb hown (hts (.methodLink RX0 3 objectInit) (wd_mem (p := 112) (by decide +kernel))) (hts _ w_oI) (hts _ w_oC) rfl (by rw [hml]; exact hl.1) rfl dX0_init_1 (Nat.le_of_ble_eq_true rfl) (Nat.le_of_ble_eq_true rfl) ?_
  refine W.eq (g2 := F0 m 4 ls []) rfl ?_
  refine lv_aload_n hx hb dX0_init_4 rfl (lv_at hl 0 rfl) ?_
  refine lv_bipush (v := nI 36) hx hb dX0_init_5 (by decide) ?_
  refine al_newi (n := 36) hx hb (hts _ w_aI) hK hP hD hS hA (by decide) (Nat.le_of_ble_eq_true rfl) (Nat.le_of_ble_eq_true rfl) dX0_init_7 (fun q1 H hP hD hS => ?_)
  refine va_putF (D := D) (ci := 0) (C := RX0) (T := TX0) (N := 7) (ty := tyX0 2) hx hb hts (cls_w _ (List.mem_of_getElem? (i := 0) rfl)) tyX0 tyX0_ok nmX0 hown hK hP hD hS 0 rfl rfl 2 (by decide) (hts (.fieldLink RX0 9 "AlibiDeals$DealCount" "cardAt" "[I") (wd_mem (p := 117) (by decide +kernel))) (fun _ h9 => h9) rfl hin rfl (by decide +kernel) rfl rfl (Nat.le_of_ble_eq_true rfl) dX0_init_9 (fun H locs hP hD hS => ?_)
  have hP : va_P D vwCl [(h0, .inr (0, [.int 0, .int 0, .ref q1, .null, .null, .null, .null])), (q1, .inl (cI, 36, .inl (fun _ => 0)))] H := hP
  have hD : va_D A [(h0, .inr (0, [.int 0, .int 0, .ref q1, .null, .null, .null, .null])), (q1, .inl (cI, 36, .inl (fun _ => 0)))] := hD
  refine lv_aload_n hx hb dX0_init_12 rfl (lv_at hl 0 rfl) ?_
  refine lv_bipush (v := nI 27) hx hb dX0_init_13 (by decide) ?_
  refine al_newi (n := 27) hx hb (hts _ w_aI) hK hP hD hS hA (by decide) (Nat.le_of_ble_eq_true rfl) (Nat.le_of_ble_eq_true rfl) dX0_init_15 (fun q2 H hP hD hS => ?_)
  refine va_putF (D := D) (ci := 0) (C := RX0) (T := TX0) (N := 7) (ty := tyX0 3) hx hb hts (cls_w _ (List.mem_of_getElem? (i := 0) rfl)) tyX0 tyX0_ok nmX0 hown hK hP hD hS 0 rfl rfl 3 (by decide) (hts (.fieldLink RX0 15 "AlibiDeals$DealCount" "inEnvelope" "[I") (wd_mem (p := 118) (by decide +kernel))) (fun _ h9 => h9) rfl hin rfl (by decide +kernel) rfl rfl (Nat.le_of_ble_eq_true rfl) dX0_init_17 (fun H locs hP hD hS => ?_)
  have hP : va_P D vwCl [(h0, .inr (0, [.int 0, .int 0, .ref q1, .ref q2, .null, .null, .null])), (q1, .inl (cI, 36, .inl (fun _ => 0))), (q2, .inl (cI, 27, .inl (fun _ => 0)))] H := hP
  have hD : va_D A [(h0, .inr (0, [.int 0, .int 0, .ref q1, .ref q2, .null, .null, .null])), (q1, .inl (cI, 36, .inl (fun _ => 0))), (q2, .inl (cI, 27, .inl (fun _ => 0)))] := hD
  refine lv_aload_n hx hb dX0_init_20 rfl (lv_at hl 0 rfl) ?_
  refine lv_sipush (v := nI 1536) hx hb dX0_init_21 (by decide) ?_
  refine al_newi (n := 1536) hx hb (hts _ w_aI) hK hP hD hS hA (by decide) (Nat.le_of_ble_eq_true rfl) (Nat.le_of_ble_eq_true rfl) dX0_init_24 (fun q3 H hP hD hS => ?_)
  refine va_putF (D := D) (ci := 0) (C := RX0) (T := TX0) (N := 7) (ty := tyX0 4) hx hb hts (cls_w _ (List.mem_of_getElem? (i := 0) rfl)) tyX0 tyX0_ok nmX0 hown hK hP hD hS 0 rfl rfl 4 (by decide) (hts (.fieldLink RX0 18 "AlibiDeals$DealCount" "withHand" "[I") (wd_mem (p := 119) (by decide +kernel))) (fun _ h9 => h9) rfl hin rfl (by decide +kernel) rfl rfl (Nat.le_of_ble_eq_true rfl) dX0_init_26 (fun H locs hP hD hS => ?_)
  have hP : va_P D vwCl [(h0, .inr (0, [.int 0, .int 0, .ref q1, .ref q2, .ref q3, .null, .null])), (q1, .inl (cI, 36, .inl (fun _ => 0))), (q2, .inl (cI, 27, .inl (fun _ => 0))), (q3, .inl (cI, 1536, .inl (fun _ => 0)))] H := hP
  have hD : va_D A [(h0, .inr (0, [.int 0, .int 0, .ref q1, .ref q2, .ref q3, .null, .null])), (q1, .inl (cI, 36, .inl (fun _ => 0))), (q2, .inl (cI, 27, .inl (fun _ => 0))), (q3, .inl (cI, 1536, .inl (fun _ => 0)))] := hD
  refine lv_aload_n hx hb dX0_init_29 rfl (lv_at hl 0 rfl) ?_
  refine lv_bipush (v := nI 20) hx hb dX0_init_30 (by decide) ?_
  refine al_newi (n := 20) hx hb (hts _ w_aI) hK hP hD hS hA (by decide) (Nat.le_of_ble_eq_true rfl) (Nat.le_of_ble_eq_true rfl) dX0_init_32 (fun q4 H hP hD hS => ?_)
  refine va_putF (D := D) (ci := 0) (C := RX0) (T := TX0) (N := 7) (ty := tyX0 5) hx hb hts (cls_w _ (List.mem_of_getElem? (i := 0) rfl)) tyX0 tyX0_ok nmX0 hown hK hP hD hS 0 rfl rfl 5 (by decide) (hts (.fieldLink RX0 21 "AlibiDeals$DealCount" "hinderedBy" "[I") (wd_mem (p := 120) (by decide +kernel))) (fun _ h9 => h9) rfl hin rfl (by decide +kernel) rfl rfl (Nat.le_of_ble_eq_true rfl) dX0_init_34 (fun H locs hP hD hS => ?_)
  have hP : va_P D vwCl [(h0, .inr (0, [.int 0, .int 0, .ref q1, .ref q2, .ref q3, .ref q4, .null])), (q1, .inl (cI, 36, .inl (fun _ => 0))), (q2, .inl (cI, 27, .inl (fun _ => 0))), (q3, .inl (cI, 1536, .inl (fun _ => 0))), (q4, .inl (cI, 20, .inl (fun _ => 0)))] H := hP
  have hD : va_D A [(h0, .inr (0, [.int 0, .int 0, .ref q1, .ref q2, .ref q3, .ref q4, .null])), (q1, .inl (cI, 36, .inl (fun _ => 0))), (q2, .inl (cI, 27, .inl (fun _ => 0))), (q3, .inl (cI, 1536, .inl (fun _ => 0))), (q4, .inl (cI, 20, .inl (fun _ => 0)))] := hD
  refine lv_aload_n hx hb dX0_init_37 rfl (lv_at hl 0 rfl) ?_
  refine lv_iconst (v := nI 4) hx hb dX0_init_38 (by decide) ?_
  refine al_newi (n := 4) hx hb (hts _ w_aI) hK hP hD hS hA (by decide) (Nat.le_of_ble_eq_true rfl) (Nat.le_of_ble_eq_true rfl) dX0_init_39 (fun q5 H hP hD hS => ?_)
  refine va_putF (D := D) (ci := 0) (C := RX0) (T := TX0) (N := 7) (ty := tyX0 6) hx hb hts (cls_w _ (List.mem_of_getElem? (i := 0) rfl)) tyX0 tyX0_ok nmX0 hown hK hP hD hS 0 rfl rfl 6 (by decide) (hts (.fieldLink RX0 24 "AlibiDeals$DealCount" "some" "[I") (wd_mem (p := 121) (by decide +kernel))) (fun _ h9 => h9) rfl hin rfl (by decide +kernel) rfl rfl (Nat.le_of_ble_eq_true rfl) dX0_init_41 (fun H locs hP hD hS => ?_)
  have hP : va_P D vwCl [(h0, .inr (0, [.int 0, .int 0, .ref q1, .ref q2, .ref q3, .ref q4, .ref q5])), (q1, .inl (cI, 36, .inl (fun _ => 0))), (q2, .inl (cI, 27, .inl (fun _ => 0))), (q3, .inl (cI, 1536, .inl (fun _ => 0))), (q4, .inl (cI, 20, .inl (fun _ => 0))), (q5, .inl (cI, 4, .inl (fun _ => 0)))] H := hP
  have hD : va_D A [(h0, .inr (0, [.int 0, .int 0, .ref q1, .ref q2, .ref q3, .ref q4, .ref q5])), (q1, .inl (cI, 36, .inl (fun _ => 0))), (q2, .inl (cI, 27, .inl (fun _ => 0))), (q3, .inl (cI, 1536, .inl (fun _ => 0))), (q4, .inl (cI, 20, .inl (fun _ => 0))), (q5, .inl (cI, 4, .inl (fun _ => 0)))] := hD
  subst hAe
  exact W.vret hx hb hr (fun t ht hW => ⟨⟨rfl, (fun i => [h0, q1, q2, q3, q4, q5].getD i 0), rfl, by rw [ht]; exact hP, hD⟩, hS.F ht⟩) hS.2.2 dX0_init_44
def mN_X1 : Mem := [eO 1 [.int 0, .int 0, .ref 1], eI 4 (fun _ => 0)]
set_option maxHeartbeats 4000000 in
theorem n_X1 {l : Launch} {D : va_G} {cI cL cS : ClassId} (h0 sz : Nat) : Met l yX1_init (Cond.code yX1_init cX1_init 1 none :: TT) { frames := 1, cells := 1, slots := 4, locals := 12 } (PreN D cI cL cS 1 [.int 0, .int 0, .null] h0 sz) (PostN D cI cL cS mN_X1 1 [.int 0, .int 0, .null] h0 sz) 1 4 (va_A [(h0, .inr (1, [.int 0, .int 0, .null]))] sz) := by
  refine Met.ofW (cc := cX1_init) (maxL := 1) (ret := none) (by decide) rfl ?_
  intro p e s m args below meth c s₁ B hml hv
  obtain ⟨rfl, hsz, hP, hK⟩ := hv
  have hx := B.exec
  have hb := B.bytes
  have hr := B.returns
  have hts0 := atoms_spec (ws := Cond.code yX1_init cX1_init 1 none :: TT) B.pre
  have hts : ∀ w ∈ TT, w.before _ s = true := fun w z => hts0 w (List.mem_cons_of_mem _ z)
  have hown : s.vm.findClass RX1 = some m.cls := findClass_of_methodNamed B.named
  have hlocks := B.notSynchronized
  have hin : meth.name = "<init>" := (name_of_methodNamed B.named B.method).1
  subst hsz
  have hD : va_D (va_A [(h0, .inr (1, [.int 0, .int 0, .null]))] s.heap.size) [(h0, .inr (1, [.int 0, .int 0, .null]))] := va_D_1 (Or.inl ⟨0, _, rfl⟩)
  generalize hAe : va_A [(h0, .inr (1, [.int 0, .int 0, .null]))] s.heap.size = A at hD ⊢
  have hA : ∀ q : Nat, s.heap.size ≤ q → A q := fun q h => by rw [← hAe]; exact Or.inr h
  have hS : va_S A s.heap s.heap [] := va_S.rf
  have hl := lv_entry ([.ref h0]) (n := 1) (Nat.le_of_ble_eq_true rfl)
  rw [lg_entry_eq]
  generalize (lg_sl ([.ref h0]) ++ List.replicate (1 - (lg_sl ([.ref h0])).length) Slot.unset).toArray = ls at hl ⊢
  have hl : lv_has ls 1 [(0, .ref h0)] := hl
  refine lv_aload_n hx hb dX1_init_0 rfl (lv_at hl 0 rfl) ?_
  obtain ⟨R0, hR0⟩ : ∃ R0 : Room, R0 = { frames := 1, cells := 1, slots := 4, locals := 12 } := ⟨_, rfl⟩
  have hRc : R0.cells = 1 := by rw [hR0]
  have hRs : R0.slots = 4 := by rw [hR0]
  refine W.objInit hx hb hown (hts (.methodLink RX1 3 objectInit) (wd_mem (p := 142) (by decide +kernel))) (hts _ w_oI) (hts _ w_oC) rfl (by rw [hml]; exact hl.1) rfl dX1_init_1 (Nat.le_of_ble_eq_true rfl) (Nat.le_of_ble_eq_true rfl) ?_
  refine W.eq (g2 := F0 m 4 ls []) rfl ?_
  refine lv_aload_n hx hb dX1_init_4 rfl (lv_at hl 0 rfl) ?_
  refine lv_iconst (v := nI 4) hx hb dX1_init_5 (by decide) ?_
  refine al_newi (n := 4) hx hb (hts _ w_aI) hK hP hD hS hA (by decide) (Nat.le_of_ble_eq_true rfl) (Nat.le_of_ble_eq_true rfl) dX1_init_6 (fun q1 H hP hD hS => ?_)
  refine va_putF (D := D) (ci := 1) (C := RX1) (T := TX1) (N := 3) (ty := tyX1 2) hx hb hts (cls_w _ (List.mem_of_getElem? (i := 1) rfl)) tyX1 tyX1_ok nmX1 hown hK hP hD hS 0 rfl rfl 2 (by decide) (hts (.fieldLink RX1 9 "AlibiDeals$HandCount" "some" "[I") (wd_mem (p := 147) (by decide +kernel))) (fun _ h9 => h9) rfl hin rfl (by decide +kernel) rfl rfl (Nat.le_of_ble_eq_true rfl) dX1_init_8 (fun H locs hP hD hS => ?_)
  have hP : va_P D vwCl [(h0, .inr (1, [.int 0, .int 0, .ref q1])), (q1, .inl (cI, 4, .inl (fun _ => 0)))] H := hP
  have hD : va_D A [(h0, .inr (1, [.int 0, .int 0, .ref q1])), (q1, .inl (cI, 4, .inl (fun _ => 0)))] := hD
  subst hAe
  exact W.vret hx hb hr (fun t ht hW => ⟨⟨rfl, (fun i => [h0, q1].getD i 0), rfl, by rw [ht]; exact hP, hD⟩, hS.F ht⟩) hS.2.2 dX1_init_11
def mN_X2 : Mem := [eO 2 [.int 0, .int 0, .ref 1], eI 9 (fun _ => 0)]
set_option maxHeartbeats 4000000 in
theorem n_X2 {l : Launch} {D : va_G} {cI cL cS : ClassId} (h0 sz : Nat) : Met l yX2_init (Cond.code yX2_init cX2_init 1 none :: TT) { frames := 1, cells := 1, slots := 9, locals := 12 } (PreN D cI cL cS 2 [.int 0, .int 0, .null] h0 sz) (PostN D cI cL cS mN_X2 2 [.int 0, .int 0, .null] h0 sz) 1 9 (va_A [(h0, .inr (2, [.int 0, .int 0, .null]))] sz) := by
  refine Met.ofW (cc := cX2_init) (maxL := 1) (ret := none) (by decide) rfl ?_
  intro p e s m args below meth c s₁ B hml hv
  obtain ⟨rfl, hsz, hP, hK⟩ := hv
  have hx := B.exec
  have hb := B.bytes
  have hr := B.returns
  have hts0 := atoms_spec (ws := Cond.code yX2_init cX2_init 1 none :: TT) B.pre
  have hts : ∀ w ∈ TT, w.before _ s = true := fun w z => hts0 w (List.mem_cons_of_mem _ z)
  have hown : s.vm.findClass RX2 = some m.cls := findClass_of_methodNamed B.named
  have hlocks := B.notSynchronized
  have hin : meth.name = "<init>" := (name_of_methodNamed B.named B.method).1
  subst hsz
  have hD : va_D (va_A [(h0, .inr (2, [.int 0, .int 0, .null]))] s.heap.size) [(h0, .inr (2, [.int 0, .int 0, .null]))] := va_D_1 (Or.inl ⟨0, _, rfl⟩)
  generalize hAe : va_A [(h0, .inr (2, [.int 0, .int 0, .null]))] s.heap.size = A at hD ⊢
  have hA : ∀ q : Nat, s.heap.size ≤ q → A q := fun q h => by rw [← hAe]; exact Or.inr h
  have hS : va_S A s.heap s.heap [] := va_S.rf
  have hl := lv_entry ([.ref h0]) (n := 1) (Nat.le_of_ble_eq_true rfl)
  rw [lg_entry_eq]
  generalize (lg_sl ([.ref h0]) ++ List.replicate (1 - (lg_sl ([.ref h0])).length) Slot.unset).toArray = ls at hl ⊢
  have hl : lv_has ls 1 [(0, .ref h0)] := hl
  refine lv_aload_n hx hb dX2_init_0 rfl (lv_at hl 0 rfl) ?_
  obtain ⟨R0, hR0⟩ : ∃ R0 : Room, R0 = { frames := 1, cells := 1, slots := 9, locals := 12 } := ⟨_, rfl⟩
  have hRc : R0.cells = 1 := by rw [hR0]
  have hRs : R0.slots = 9 := by rw [hR0]
  refine W.objInit hx hb hown (hts (.methodLink RX2 3 objectInit) (wd_mem (p := 160) (by decide +kernel))) (hts _ w_oI) (hts _ w_oC) rfl (by rw [hml]; exact hl.1) rfl dX2_init_1 (Nat.le_of_ble_eq_true rfl) (Nat.le_of_ble_eq_true rfl) ?_
  refine W.eq (g2 := F0 m 4 ls []) rfl ?_
  refine lv_aload_n hx hb dX2_init_4 rfl (lv_at hl 0 rfl) ?_
  refine lv_bipush (v := nI 9) hx hb dX2_init_5 (by decide) ?_
  refine al_newi (n := 9) hx hb (hts _ w_aI) hK hP hD hS hA (by decide) (Nat.le_of_ble_eq_true rfl) (Nat.le_of_ble_eq_true rfl) dX2_init_7 (fun q1 H hP hD hS => ?_)
  refine va_putF (D := D) (ci := 2) (C := RX2) (T := TX2) (N := 3) (ty := tyX2 2) hx hb hts (cls_w _ (List.mem_of_getElem? (i := 2) rfl)) tyX2 tyX2_ok nmX2 hown hK hP hD hS 0 rfl rfl 2 (by decide) (hts (.fieldLink RX2 9 "AlibiDeals$RuleSheet" "places" "[I") (wd_mem (p := 165) (by decide +kernel))) (fun _ h9 => h9) rfl hin rfl (by decide +kernel) rfl rfl (Nat.le_of_ble_eq_true rfl) dX2_init_9 (fun H locs hP hD hS => ?_)
  have hP : va_P D vwCl [(h0, .inr (2, [.int 0, .int 0, .ref q1])), (q1, .inl (cI, 9, .inl (fun _ => 0)))] H := hP
  have hD : va_D A [(h0, .inr (2, [.int 0, .int 0, .ref q1])), (q1, .inl (cI, 9, .inl (fun _ => 0)))] := hD
  subst hAe
  exact W.vret hx hb hr (fun t ht hW => ⟨⟨rfl, (fun i => [h0, q1].getD i 0), rfl, by rw [ht]; exact hP, hD⟩, hS.F ht⟩) hS.2.2 dX2_init_12
def mN_X3 : Mem := [eO 3 [.ref 1, .ref 2, .ref 3, .ref 4, .int 0, .int 0, .int 0], eI 4 (fun _ => 0), eI 20 (fun _ => 0), eI 20 (fun _ => 0), eI 20 (fun _ => 0)]
set_option maxHeartbeats 4000000 in
theorem n_X3 {l : Launch} {D : va_G} {cI cL cS : ClassId} (h0 sz : Nat) : Met l yX3_init (Cond.code yX3_init cX3_init 1 none :: TT) { frames := 1, cells := 4, slots := 64, locals := 12 } (PreN D cI cL cS 3 [.null, .null, .null, .null, .int 0, .int 0, .int 0] h0 sz) (PostN D cI cL cS mN_X3 3 [.null, .null, .null, .null, .int 0, .int 0, .int 0] h0 sz) 4 64 (va_A [(h0, .inr (3, [.null, .null, .null, .null, .int 0, .int 0, .int 0]))] sz) := by
  refine Met.ofW (cc := cX3_init) (maxL := 1) (ret := none) (by decide) rfl ?_
  intro p e s m args below meth c s₁ B hml hv
  obtain ⟨rfl, hsz, hP, hK⟩ := hv
  have hx := B.exec
  have hb := B.bytes
  have hr := B.returns
  have hts0 := atoms_spec (ws := Cond.code yX3_init cX3_init 1 none :: TT) B.pre
  have hts : ∀ w ∈ TT, w.before _ s = true := fun w z => hts0 w (List.mem_cons_of_mem _ z)
  have hown : s.vm.findClass RX3 = some m.cls := findClass_of_methodNamed B.named
  have hlocks := B.notSynchronized
  have hin : meth.name = "<init>" := (name_of_methodNamed B.named B.method).1
  subst hsz
  have hD : va_D (va_A [(h0, .inr (3, [.null, .null, .null, .null, .int 0, .int 0, .int 0]))] s.heap.size) [(h0, .inr (3, [.null, .null, .null, .null, .int 0, .int 0, .int 0]))] := va_D_1 (Or.inl ⟨0, _, rfl⟩)
  generalize hAe : va_A [(h0, .inr (3, [.null, .null, .null, .null, .int 0, .int 0, .int 0]))] s.heap.size = A at hD ⊢
  have hA : ∀ q : Nat, s.heap.size ≤ q → A q := fun q h => by rw [← hAe]; exact Or.inr h
  have hS : va_S A s.heap s.heap [] := va_S.rf
  have hl := lv_entry ([.ref h0]) (n := 1) (Nat.le_of_ble_eq_true rfl)
  rw [lg_entry_eq]
  generalize (lg_sl ([.ref h0]) ++ List.replicate (1 - (lg_sl ([.ref h0])).length) Slot.unset).toArray = ls at hl ⊢
  have hl : lv_has ls 1 [(0, .ref h0)] := hl
  refine lv_aload_n hx hb dX3_init_0 rfl (lv_at hl 0 rfl) ?_
  obtain ⟨R0, hR0⟩ : ∃ R0 : Room, R0 = { frames := 1, cells := 4, slots := 64, locals := 12 } := ⟨_, rfl⟩
  have hRc : R0.cells = 4 := by rw [hR0]
  have hRs : R0.slots = 64 := by rw [hR0]
  refine W.objInit hx hb hown (hts (.methodLink RX3 3 objectInit) (wd_mem (p := 55) (by decide +kernel))) (hts _ w_oI) (hts _ w_oC) rfl (by rw [hml]; exact hl.1) rfl dX3_init_1 (Nat.le_of_ble_eq_true rfl) (Nat.le_of_ble_eq_true rfl) ?_
  refine W.eq (g2 := F0 m 4 ls []) rfl ?_
  refine lv_aload_n hx hb dX3_init_4 rfl (lv_at hl 0 rfl) ?_
  refine lv_iconst (v := nI 4) hx hb dX3_init_5 (by decide) ?_
  refine al_newi (n := 4) hx hb (hts _ w_aI) hK hP hD hS hA (by decide) (Nat.le_of_ble_eq_true rfl) (Nat.le_of_ble_eq_true rfl) dX3_init_6 (fun q1 H hP hD hS => ?_)
  refine va_putF (D := D) (ci := 3) (C := RX3) (T := TX3) (N := 7) (ty := tyX3 0) hx hb hts (cls_w _ (List.mem_of_getElem? (i := 3) rfl)) tyX3 tyX3_ok nmX3 hown hK hP hD hS 0 rfl rfl 0 (by decide) (hts (.fieldLink RX3 9 "AlibiDeals$State" "deal" "[I") (wd_mem (p := 56) (by decide +kernel))) (fun _ h9 => h9) rfl hin rfl (by decide +kernel) rfl rfl (Nat.le_of_ble_eq_true rfl) dX3_init_8 (fun H locs hP hD hS => ?_)
  have hP : va_P D vwCl [(h0, .inr (3, [.ref q1, .null, .null, .null, .int 0, .int 0, .int 0])), (q1, .inl (cI, 4, .inl (fun _ => 0)))] H := hP
  have hD : va_D A [(h0, .inr (3, [.ref q1, .null, .null, .null, .int 0, .int 0, .int 0])), (q1, .inl (cI, 4, .inl (fun _ => 0)))] := hD
  refine lv_aload_n hx hb dX3_init_11 rfl (lv_at hl 0 rfl) ?_
  refine lv_bipush (v := nI 20) hx hb dX3_init_12 (by decide) ?_
  refine al_newi (n := 20) hx hb (hts _ w_aI) hK hP hD hS hA (by decide) (Nat.le_of_ble_eq_true rfl) (Nat.le_of_ble_eq_true rfl) dX3_init_14 (fun q2 H hP hD hS => ?_)
  refine va_putF (D := D) (ci := 3) (C := RX3) (T := TX3) (N := 7) (ty := tyX3 1) hx hb hts (cls_w _ (List.mem_of_getElem? (i := 3) rfl)) tyX3 tyX3_ok nmX3 hown hK hP hD hS 0 rfl rfl 1 (by decide) (hts (.fieldLink RX3 15 "AlibiDeals$State" "kind" "[I") (wd_mem (p := 58) (by decide +kernel))) (fun _ h9 => h9) rfl hin rfl (by decide +kernel) rfl rfl (Nat.le_of_ble_eq_true rfl) dX3_init_16 (fun H locs hP hD hS => ?_)
  have hP : va_P D vwCl [(h0, .inr (3, [.ref q1, .ref q2, .null, .null, .int 0, .int 0, .int 0])), (q1, .inl (cI, 4, .inl (fun _ => 0))), (q2, .inl (cI, 20, .inl (fun _ => 0)))] H := hP
  have hD : va_D A [(h0, .inr (3, [.ref q1, .ref q2, .null, .null, .int 0, .int 0, .int 0])), (q1, .inl (cI, 4, .inl (fun _ => 0))), (q2, .inl (cI, 20, .inl (fun _ => 0)))] := hD
  refine lv_aload_n hx hb dX3_init_19 rfl (lv_at hl 0 rfl) ?_
  refine lv_bipush (v := nI 20) hx hb dX3_init_20 (by decide) ?_
  refine al_newi (n := 20) hx hb (hts _ w_aI) hK hP hD hS hA (by decide) (Nat.le_of_ble_eq_true rfl) (Nat.le_of_ble_eq_true rfl) dX3_init_22 (fun q3 H hP hD hS => ?_)
  refine va_putF (D := D) (ci := 3) (C := RX3) (T := TX3) (N := 7) (ty := tyX3 2) hx hb hts (cls_w _ (List.mem_of_getElem? (i := 3) rfl)) tyX3 tyX3_ok nmX3 hown hK hP hD hS 0 rfl rfl 2 (by decide) (hts (.fieldLink RX3 18 "AlibiDeals$State" "place" "[I") (wd_mem (p := 61) (by decide +kernel))) (fun _ h9 => h9) rfl hin rfl (by decide +kernel) rfl rfl (Nat.le_of_ble_eq_true rfl) dX3_init_24 (fun H locs hP hD hS => ?_)
  have hP : va_P D vwCl [(h0, .inr (3, [.ref q1, .ref q2, .ref q3, .null, .int 0, .int 0, .int 0])), (q1, .inl (cI, 4, .inl (fun _ => 0))), (q2, .inl (cI, 20, .inl (fun _ => 0))), (q3, .inl (cI, 20, .inl (fun _ => 0)))] H := hP
  have hD : va_D A [(h0, .inr (3, [.ref q1, .ref q2, .ref q3, .null, .int 0, .int 0, .int 0])), (q1, .inl (cI, 4, .inl (fun _ => 0))), (q2, .inl (cI, 20, .inl (fun _ => 0))), (q3, .inl (cI, 20, .inl (fun _ => 0)))] := hD
  refine lv_aload_n hx hb dX3_init_27 rfl (lv_at hl 0 rfl) ?_
  refine lv_bipush (v := nI 20) hx hb dX3_init_28 (by decide) ?_
  refine al_newi (n := 20) hx hb (hts _ w_aI) hK hP hD hS hA (by decide) (Nat.le_of_ble_eq_true rfl) (Nat.le_of_ble_eq_true rfl) dX3_init_30 (fun q4 H hP hD hS => ?_)
  refine va_putF (D := D) (ci := 3) (C := RX3) (T := TX3) (N := 7) (ty := tyX3 3) hx hb hts (cls_w _ (List.mem_of_getElem? (i := 3) rfl)) tyX3 tyX3_ok nmX3 hown hK hP hD hS 0 rfl rfl 3 (by decide) (hts (.fieldLink RX3 21 "AlibiDeals$State" "cards" "[I") (wd_mem (p := 64) (by decide +kernel))) (fun _ h9 => h9) rfl hin rfl (by decide +kernel) rfl rfl (Nat.le_of_ble_eq_true rfl) dX3_init_32 (fun H locs hP hD hS => ?_)
  have hP : va_P D vwCl [(h0, .inr (3, [.ref q1, .ref q2, .ref q3, .ref q4, .int 0, .int 0, .int 0])), (q1, .inl (cI, 4, .inl (fun _ => 0))), (q2, .inl (cI, 20, .inl (fun _ => 0))), (q3, .inl (cI, 20, .inl (fun _ => 0))), (q4, .inl (cI, 20, .inl (fun _ => 0)))] H := hP
  have hD : va_D A [(h0, .inr (3, [.ref q1, .ref q2, .ref q3, .ref q4, .int 0, .int 0, .int 0])), (q1, .inl (cI, 4, .inl (fun _ => 0))), (q2, .inl (cI, 20, .inl (fun _ => 0))), (q3, .inl (cI, 20, .inl (fun _ => 0))), (q4, .inl (cI, 20, .inl (fun _ => 0)))] := hD
  subst hAe
  exact W.vret hx hb hr (fun t ht hW => ⟨⟨rfl, (fun i => [h0, q1, q2, q3, q4].getD i 0), rfl, by rw [ht]; exact hP, hD⟩, hS.F ht⟩) hS.2.2 dX3_init_35
def mN_X4 : Mem := [eO 4 [.int 0, .int 0, .int 0, .int 0]]
set_option maxHeartbeats 4000000 in
theorem n_X4 {l : Launch} {D : va_G} {cI cL cS : ClassId} (h0 sz : Nat) : Met l yX4_init (Cond.code yX4_init cX4_init 1 none :: TT) { frames := 1, cells := 0, slots := 0, locals := 12 } (PreN D cI cL cS 4 [.int 0, .int 0, .int 0, .int 0] h0 sz) (PostN D cI cL cS mN_X4 4 [.int 0, .int 0, .int 0, .int 0] h0 sz) 0 0 (va_A [(h0, .inr (4, [.int 0, .int 0, .int 0, .int 0]))] sz) := by
  refine Met.ofW (cc := cX4_init) (maxL := 1) (ret := none) (by decide) rfl ?_
  intro p e s m args below meth c s₁ B hml hv
  obtain ⟨rfl, hsz, hP, hK⟩ := hv
  have hx := B.exec
  have hb := B.bytes
  have hr := B.returns
  have hts0 := atoms_spec (ws := Cond.code yX4_init cX4_init 1 none :: TT) B.pre
  have hts : ∀ w ∈ TT, w.before _ s = true := fun w z => hts0 w (List.mem_cons_of_mem _ z)
  have hown : s.vm.findClass RX4 = some m.cls := findClass_of_methodNamed B.named
  have hlocks := B.notSynchronized
  have hin : meth.name = "<init>" := (name_of_methodNamed B.named B.method).1
  subst hsz
  have hD : va_D (va_A [(h0, .inr (4, [.int 0, .int 0, .int 0, .int 0]))] s.heap.size) [(h0, .inr (4, [.int 0, .int 0, .int 0, .int 0]))] := va_D_1 (Or.inl ⟨0, _, rfl⟩)
  generalize hAe : va_A [(h0, .inr (4, [.int 0, .int 0, .int 0, .int 0]))] s.heap.size = A at hD ⊢
  have hA : ∀ q : Nat, s.heap.size ≤ q → A q := fun q h => by rw [← hAe]; exact Or.inr h
  have hS : va_S A s.heap s.heap [] := va_S.rf
  have hl := lv_entry ([.ref h0]) (n := 1) (Nat.le_of_ble_eq_true rfl)
  rw [lg_entry_eq]
  generalize (lg_sl ([.ref h0]) ++ List.replicate (1 - (lg_sl ([.ref h0])).length) Slot.unset).toArray = ls at hl ⊢
  have hl : lv_has ls 1 [(0, .ref h0)] := hl
  refine lv_aload_n hx hb dX4_init_0 rfl (lv_at hl 0 rfl) ?_
  obtain ⟨R0, hR0⟩ : ∃ R0 : Room, R0 = { frames := 1, cells := 0, slots := 0, locals := 12 } := ⟨_, rfl⟩
  have hRc : R0.cells = 0 := by rw [hR0]
  have hRs : R0.slots = 0 := by rw [hR0]
  refine W.objInit hx hb hown (hts (.methodLink RX4 3 objectInit) (wd_mem (p := 97) (by decide +kernel))) (hts _ w_oI) (hts _ w_oC) rfl (by rw [hml]; exact hl.1) rfl dX4_init_1 (Nat.le_of_ble_eq_true rfl) (Nat.le_of_ble_eq_true rfl) ?_
  refine W.eq (g2 := F0 m 4 ls []) rfl ?_
  subst hAe
  exact W.vret hx hb hr (fun t ht hW => ⟨⟨rfl, (fun i => [h0].getD i 0), rfl, by rw [ht]; exact hP, hD⟩, hS.F ht⟩) hS.2.2 dX4_init_4
