/-! what stands at the law's entry -/
theorem str_R {args : Array Value} {s : State} {own tx : String} {k : Nat} (w : (Cond.stringRef own k tx).before args s = true) : ∃ a, vk_R own k tx a s := by
  cases hc : s.vm.findClass own with
  | none => simp [Cond.before, Cond.holds, Cond.value, hc] at w
  | some cc =>
    obtain ⟨k1, cf, i, a, hk, hcf, hp, -, hr, hev⟩ := Cond.stringRef_spec hc w
    exact ⟨a, vk_R.of (A := args) w hev⟩
theorem TT_tbl {w : Cond} (h : w ∈ TT) : w ∈ lw_tbl := (List.mem_filter.mp h).1
set_option maxRecDepth 100000 in
theorem st_nw {args : Array Value} {s : State} (hts : ∀ w ∈ lw_tbl, w.before args s = true) : ∀ w ∈ nwords, va_Nw w s := by
  intro w hw
  unfold nwords at hw
  simp only [List.mem_cons, List.not_mem_nil, or_false] at hw
  rcases hw with rfl | rfl | rfl | rfl
  · exact va_Nw.of rfl (hts _ (List.mem_of_getElem? (i := 412) (by decide +kernel)))
  · exact va_Nw.of rfl (hts _ (List.mem_of_getElem? (i := 433) (by decide +kernel)))
  · exact va_Nw.of rfl (hts _ (List.mem_of_getElem? (i := 516) (by decide +kernel)))
  · exact va_Nw.of rfl (hts _ (List.mem_of_getElem? (i := 626) (by decide +kernel)))
set_option maxRecDepth 100000 in
theorem st_nw2 {args : Array Value} {s : State} (hts : ∀ w ∈ lw_tbl, w.before args s = true) : ∀ w ∈ nw2, va_Nw w s := by
  intro w hw
  unfold nw2 at hw
  simp only [List.mem_cons, List.not_mem_nil, or_false] at hw
  rcases hw with rfl | rfl | rfl | rfl | rfl
  · exact va_Nw.of rfl (hts _ (List.mem_of_getElem? (i := 123) (by decide +kernel)))
  · exact va_Nw.of rfl (hts _ (List.mem_of_getElem? (i := 165) (by decide +kernel)))
  · exact va_Nw.of rfl (hts _ (List.mem_of_getElem? (i := 187) (by decide +kernel)))
  · exact va_Nw.of rfl (hts _ (List.mem_of_getElem? (i := 217) (by decide +kernel)))
  · exact va_Nw.of rfl (hts _ (List.mem_of_getElem? (i := 235) (by decide +kernel)))
set_option maxRecDepth 100000 in
theorem st_xw {args : Array Value} {s : State} (hts : ∀ w ∈ lw_tbl, w.before args s = true) : ∀ w ∈ xwords, va_Nw w s := by
  intro w hw
  unfold xwords at hw
  simp only [List.mem_cons, List.not_mem_nil, or_false] at hw
  rcases hw with rfl | rfl | rfl | rfl | rfl | rfl
  · exact va_Nw.of rfl (hts _ (List.mem_of_getElem? (i := 646) (by decide +kernel)))
  · exact va_Nw.of rfl (hts _ (List.mem_of_getElem? (i := 648) (by decide +kernel)))
  · exact va_Nw.of rfl (hts _ (List.mem_of_getElem? (i := 650) (by decide +kernel)))
  · exact va_Nw.of rfl (hts _ (List.mem_of_getElem? (i := 644) (by decide +kernel)))
  · exact va_Nw.of rfl (hts _ (List.mem_of_getElem? (i := 769) (by decide +kernel)))
  · exact va_Nw.of rfl (hts _ (List.mem_of_getElem? (i := 914) (by decide +kernel)))
set_option maxRecDepth 100000 in
theorem st_xs {args : Array Value} {s : State} (hts : ∀ w ∈ lw_tbl, w.before args s = true) : ∀ q ∈ xstrs, ∃ sa, vk_R "AlibiDeals" q.1 q.2 sa s := by
  intro q hq
  unfold xstrs at hq
  simp only [List.mem_cons, List.not_mem_nil, or_false] at hq
  rcases hq with rfl | rfl | rfl | rfl | rfl | rfl | rfl | rfl | rfl | rfl | rfl | rfl | rfl | rfl | rfl | rfl | rfl
  · exact str_R (hts _ (List.mem_of_getElem? (i := 814) (by decide +kernel)))
  · exact str_R (hts _ (List.mem_of_getElem? (i := 921) (by decide +kernel)))
  · exact str_R (hts _ (List.mem_of_getElem? (i := 928) (by decide +kernel)))
  · exact str_R (hts _ (List.mem_of_getElem? (i := 941) (by decide +kernel)))
  · exact str_R (hts _ (List.mem_of_getElem? (i := 966) (by decide +kernel)))
  · exact str_R (hts _ (List.mem_of_getElem? (i := 974) (by decide +kernel)))
  · exact str_R (hts _ (List.mem_of_getElem? (i := 734) (by decide +kernel)))
  · exact str_R (hts _ (List.mem_of_getElem? (i := 825) (by decide +kernel)))
  · exact str_R (hts _ (List.mem_of_getElem? (i := 1005) (by decide +kernel)))
  · exact str_R (hts _ (List.mem_of_getElem? (i := 1044) (by decide +kernel)))
  · exact str_R (hts _ (List.mem_of_getElem? (i := 852) (by decide +kernel)))
  · exact str_R (hts _ (List.mem_of_getElem? (i := 853) (by decide +kernel)))
  · exact str_R (hts _ (List.mem_of_getElem? (i := 854) (by decide +kernel)))
  · exact str_R (hts _ (List.mem_of_getElem? (i := 683) (by decide +kernel)))
  · exact str_R (hts _ (List.mem_of_getElem? (i := 830) (by decide +kernel)))
  · exact str_R (hts _ (List.mem_of_getElem? (i := 776) (by decide +kernel)))
  · exact str_R (hts _ (List.mem_of_getElem? (i := 1055) (by decide +kernel)))
set_option maxRecDepth 100000 in
theorem st_zq {args : Array Value} {s : State} (hts : ∀ w ∈ lw_tbl, w.before args s = true) (hgv : (Jvm.Cond.and given_1 narrow_1).before args s = true) {A : Nat → Prop} (hA : ∀ a : Nat, a < s.heap.size → ¬ A a) : zqU A s s.heap := by
  have hs := flat_of_before _ hgv
  exact ⟨vx_Zqof (hts _ (List.mem_of_getElem? (i := 669) (by decide +kernel))) (hts _ (List.mem_of_getElem? (i := 104) (by decide +kernel))) (hs _ (by decide +kernel)) hA, vx_Zqof (hts _ (List.mem_of_getElem? (i := 671) (by decide +kernel))) (hts _ (List.mem_of_getElem? (i := 104) (by decide +kernel))) (hs _ (by decide +kernel)) hA⟩
theorem st_nc {args : Array Value} {s : State} (hgv : (Jvm.Cond.and given_1 narrow_1).before args s = true) : va_Nc (xN 1) (xN 0) s ∧ va_Nc (xN 1) (xN 2) s := by
  have hs := flat_of_before _ hgv
  exact ⟨va_Nc.of (hs _ (by decide +kernel)), va_Nc.of (hs _ (by decide +kernel))⟩
theorem st_fl {l : Launch} (h : l.flags = flags0) : l.stackTraces = false := by
  unfold Launch.stackTraces
  rw [h]
  decide +kernel
theorem st_K {args : Array Value} {s : State} (hts : ∀ w ∈ lw_tbl, w.before args s = true) : ∃ (D : va_G) (cI cL cS : ClassId), va_K D vwCl (tys3 cI cL cS) s := by
  have htT : ∀ w ∈ TT, w.before args s = true := fun w hw => hts w (TT_tbl hw)
  obtain ⟨c0, i0, k0⟩ := u_known (C := RX0) (T := TX0) (N := 7) (n := 7) htT (cls_w _ (List.mem_of_getElem? (i := 0) rfl)) (hts (.instantiable RX0 7) (List.mem_of_getElem? (i := 186) (by decide +kernel)))
  obtain ⟨c1, i1, k1⟩ := u_known (C := RX1) (T := TX1) (N := 3) (n := 3) htT (cls_w _ (List.mem_of_getElem? (i := 1) rfl)) (hts (.instantiable RX1 3) (List.mem_of_getElem? (i := 216) (by decide +kernel)))
  obtain ⟨c2, i2, k2⟩ := u_known (C := RX2) (T := TX2) (N := 3) (n := 3) htT (cls_w _ (List.mem_of_getElem? (i := 2) rfl)) (hts (.instantiable RX2 3) (List.mem_of_getElem? (i := 234) (by decide +kernel)))
  obtain ⟨c3, i3, k3⟩ := u_known (C := RX3) (T := TX3) (N := 7) (n := 7) htT (cls_w _ (List.mem_of_getElem? (i := 3) rfl)) (hts (.instantiable RX3 7) (List.mem_of_getElem? (i := 122) (by decide +kernel)))
  obtain ⟨c4, i4, k4⟩ := u_known (C := RX4) (T := TX4) (N := 4) (n := 4) htT (cls_w _ (List.mem_of_getElem? (i := 4) rfl)) (hts (.instantiable RX4 4) (List.mem_of_getElem? (i := 164) (by decide +kernel)))
  obtain ⟨c5, i5, k5⟩ := u_known (C := RX5) (T := TX5) (N := 11) (n := 11) htT (cls_w _ (List.mem_of_getElem? (i := 5) rfl)) (hts (.instantiable RX5 11) (List.mem_of_getElem? (i := 114) (by decide +kernel)))
  obtain ⟨c6, i6, k6⟩ := u_known (C := RX6) (T := TX6) (N := 19) (n := 19) htT (cls_w _ (List.mem_of_getElem? (i := 6) rfl)) (hts (.instantiable RX6 19) (List.mem_of_getElem? (i := 1086) (by decide +kernel)))
  obtain ⟨cI, kI, pI, a1, a2, a3⟩ := Cond.arrayClass_spec (hts (.arrayClass .int) (List.mem_of_getElem? (i := 161) (by decide +kernel)))
  obtain ⟨cL, kL, pL, b1, b2, b3⟩ := Cond.arrayClass_spec (hts (.arrayClass .long) (List.mem_of_getElem? (i := 1617) (by decide +kernel)))
  obtain ⟨pS, cS, kS, d1, d2, d3, d4, d5⟩ := Cond.arrayOver_spec (hts (.arrayOver (.object RX3)) (List.mem_of_getElem? (i := 162) (by decide +kernel)))
  refine ⟨(fun k => match k with | 0 => c0 | 1 => c1 | 2 => c2 | 3 => c3 | 4 => c4 | 5 => c5 | _ => c6, fun k => match k with | 0 => i0 | 1 => i1 | 2 => i2 | 3 => i3 | 4 => i4 | 5 => i5 | _ => i6), cI, cL, cS, ?_, ?_⟩
  · intro k q hq
    match k, hq with
    | 0, hq => cases hq; exact k0
    | 1, hq => cases hq; exact k1
    | 2, hq => cases hq; exact k2
    | 3, hq => cases hq; exact k3
    | 4, hq => cases hq; exact k4
    | 5, hq => cases hq; exact k5
    | 6, hq => cases hq; exact k6
    | k + 7, hq => exact absurd (List.getElem?_eq_some_iff.mp hq).1 (by show ¬ k + 7 < 7; omega)
  · intro k q hq
    match k, hq with
    | 0, hq => cases hq; exact ⟨fun n z => ⟨fun k h => (by cases h), kI, a2, pI, a3⟩, a1⟩
    | 1, hq => cases hq; exact ⟨fun n z => ⟨fun k h => (by cases h), kL, b2, pL, b3⟩, b1⟩
    | 2, hq => cases hq; exact ⟨fun n z => ⟨fun k h => (by cases h), kS, d3, pS, d4⟩, kS, pS, d3, d4, d1, d5⟩
    | k + 3, hq => exact absurd (List.getElem?_eq_some_iff.mp hq).1 (by show ¬ k + 3 < 3; omega)
theorem st_AO {args : Array Value} {s : State} (hts : ∀ w ∈ lw_tbl, w.before args s = true) : va_AO RX3 s := va_AO.of (hts (.arrayOver (.object RX3)) (List.mem_of_getElem? (i := 162) (by decide +kernel)))
