/-! what the law's entry gives -/
theorem TT_tbl {w : Cond} (h : w ∈ TT) : w ∈ lw_tbl := (List.mem_filter.mp h).1
set_option maxRecDepth 100000 in
theorem st_nw {args : Array Value} {s : State} (hts : ∀ w ∈ lw_tbl, w.before args s = true) : ∀ w ∈ nwords, va_Nw w s := by
  intro w hw
  unfold nwords at hw
  simp only [List.mem_cons, List.not_mem_nil, or_false] at hw
  rcases hw with rfl | rfl | rfl | rfl
  · exact va_Nw.of rfl (hts _ (List.mem_of_getElem? (i := 368) (by decide +kernel)))
  · exact va_Nw.of rfl (hts _ (List.mem_of_getElem? (i := 446) (by decide +kernel)))
  · exact va_Nw.of rfl (hts _ (List.mem_of_getElem? (i := 636) (by decide +kernel)))
  · exact va_Nw.of rfl (hts _ (List.mem_of_getElem? (i := 723) (by decide +kernel)))
set_option maxRecDepth 100000 in
theorem st_nw2 {args : Array Value} {s : State} (hts : ∀ w ∈ lw_tbl, w.before args s = true) : ∀ w ∈ nw2, va_Nw w s := by
  intro w hw
  unfold nw2 at hw
  simp only [List.mem_cons, List.not_mem_nil, or_false] at hw
  rcases hw with rfl | rfl | rfl | rfl | rfl
  · exact va_Nw.of rfl (hts _ (List.mem_of_getElem? (i := 52) (by decide +kernel)))
  · exact va_Nw.of rfl (hts _ (List.mem_of_getElem? (i := 94) (by decide +kernel)))
  · exact va_Nw.of rfl (hts _ (List.mem_of_getElem? (i := 109) (by decide +kernel)))
  · exact va_Nw.of rfl (hts _ (List.mem_of_getElem? (i := 139) (by decide +kernel)))
  · exact va_Nw.of rfl (hts _ (List.mem_of_getElem? (i := 157) (by decide +kernel)))
set_option maxRecDepth 100000 in
theorem st_K {args : Array Value} {s : State} (hts : ∀ w ∈ lw_tbl, w.before args s = true) : ∃ (D : va_G) (cI cL cS : ClassId), va_K D vwCl (tys3 cI cL cS) s := by
  have htT : ∀ w ∈ TT, w.before args s = true := fun w hw => hts w (TT_tbl hw)
  obtain ⟨c0, i0, k0⟩ := u_known (C := RX0) (T := TX0) (N := 7) (n := 7) htT (cls_w _ (List.mem_of_getElem? (i := 0) rfl)) (hts (.instantiable RX0 7) (List.mem_of_getElem? (i := 108) (by decide +kernel)))
  obtain ⟨c1, i1, k1⟩ := u_known (C := RX1) (T := TX1) (N := 3) (n := 3) htT (cls_w _ (List.mem_of_getElem? (i := 1) rfl)) (hts (.instantiable RX1 3) (List.mem_of_getElem? (i := 138) (by decide +kernel)))
  obtain ⟨c2, i2, k2⟩ := u_known (C := RX2) (T := TX2) (N := 3) (n := 3) htT (cls_w _ (List.mem_of_getElem? (i := 2) rfl)) (hts (.instantiable RX2 3) (List.mem_of_getElem? (i := 156) (by decide +kernel)))
  obtain ⟨c3, i3, k3⟩ := u_known (C := RX3) (T := TX3) (N := 7) (n := 7) htT (cls_w _ (List.mem_of_getElem? (i := 3) rfl)) (hts (.instantiable RX3 7) (List.mem_of_getElem? (i := 51) (by decide +kernel)))
  obtain ⟨c4, i4, k4⟩ := u_known (C := RX4) (T := TX4) (N := 4) (n := 4) htT (cls_w _ (List.mem_of_getElem? (i := 4) rfl)) (hts (.instantiable RX4 4) (List.mem_of_getElem? (i := 93) (by decide +kernel)))
  obtain ⟨c5, i5, k5⟩ := u_known (C := RX5) (T := TX5) (N := 11) (n := 11) htT (cls_w _ (List.mem_of_getElem? (i := 5) rfl)) (hts (.instantiable RX5 11) (List.mem_of_getElem? (i := 43) (by decide +kernel)))
  obtain ⟨cI, kI, pI, a1, a2, a3⟩ := Cond.arrayClass_spec (hts (.arrayClass .int) (List.mem_of_getElem? (i := 90) (by decide +kernel)))
  obtain ⟨pS, cS, kS, d1, d2, d3, d4, d5⟩ := Cond.arrayOver_spec (hts (.arrayOver (.object RX3)) (List.mem_of_getElem? (i := 91) (by decide +kernel)))
  refine ⟨(fun k => match k with | 0 => c0 | 1 => c1 | 2 => c2 | 3 => c3 | 4 => c4 | _ => c5, fun k => match k with | 0 => i0 | 1 => i1 | 2 => i2 | 3 => i3 | 4 => i4 | _ => i5), cI, cI, cS, ?_, ?_⟩
  · intro k q hq
    match k, hq with
    | 0, hq => cases hq; exact k0
    | 1, hq => cases hq; exact k1
    | 2, hq => cases hq; exact k2
    | 3, hq => cases hq; exact k3
    | 4, hq => cases hq; exact k4
    | 5, hq => cases hq; exact k5
    | k + 6, hq => exact absurd (List.getElem?_eq_some_iff.mp hq).1 (by show ¬ k + 6 < 6; omega)
  · intro k q hq
    match k, hq with
    | 0, hq => cases hq; exact ⟨fun n z => ⟨fun k h => (by cases h), kI, a2, pI, a3⟩, a1⟩
    | 1, hq => cases hq; exact ⟨fun n z => ⟨fun k h => (by cases h), kI, a2, pI, a3⟩, a1⟩
    | 2, hq => cases hq; exact ⟨fun n z => ⟨fun k h => (by cases h), kS, d3, pS, d4⟩, kS, pS, d3, d4, d1, d5⟩
    | k + 3, hq => exact absurd (List.getElem?_eq_some_iff.mp hq).1 (by show ¬ k + 3 < 3; omega)
theorem st_AO {args : Array Value} {s : State} (hts : ∀ w ∈ lw_tbl, w.before args s = true) : va_AO RX3 s := va_AO.of (hts (.arrayOver (.object RX3)) (List.mem_of_getElem? (i := 91) (by decide +kernel)))
/-! the parlour as it begins -/
theorem CR_0 : CR mN_X5 A0 := by
  refine ⟨nS, zS, fun _ => zS, 0, fun _ => 0, (0, 0, 0, 0), ((0, fun _ => 0, fun _ => 0, fun _ => 0, fun _ => 0), 0, fun _ => 0), (0, 0, fun _ => 0), (0, 0, fun _ => 0), ?_, ?_⟩
  · rfl
  · refine ⟨by decide, ⟨fun i x hx => (by simp [A0] at hx), rfl, ?_, rfl, rfl, A0_ok⟩, fun a ha => (by cases ha), by decide, fun j a ha => (by simp [A0] at ha), ⟨by decide, fun j c hc => (by simp [A0] at hc)⟩, by decide, Or.inl rfl, Or.inl rfl, Or.inl rfl⟩
    intro p hp
    show nS.1 p = nI (hq q0 p)
    obtain ⟨h0, h1, h2, h3⟩ := q0_hq
    match p, hp with
    | 0, _ => rw [h0]; rfl
    | 1, _ => rw [h1]; rfl
    | 2, _ => rw [h2]; rfl
    | 3, _ => rw [h3]; rfl
    | p + 4, hp => exact absurd hp (by omega)
