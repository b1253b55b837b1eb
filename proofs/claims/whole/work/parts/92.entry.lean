/-! what stands at the law's entry -/
theorem str_R {args : Array Value} {s : State} {own tx : String} {k : Nat} (w : (Cond.stringRef own k tx).before args s = true) : ∃ a, vk_R own k tx a s := by
  cases hc : s.vm.findClass own with
  | none => simp [Cond.before, Cond.holds, Cond.value, hc] at w
  | some cc =>
    obtain ⟨k1, cf, i, a, hk, hcf, hp, -, hr, hev⟩ := Cond.stringRef_spec hc w
    exact ⟨a, vk_R.of (A := args) w hev⟩
theorem TT_tbl {w : Cond} (h : w ∈ TT) : w ∈ lw_tbl := (List.mem_filter.mp h).1
set_option maxRecDepth 100000 in
theorem st_nw {args : Array Value} {s : State} (hts : ∀ w ∈ lw_tbl, w.before args s = true) : ∀ w ∈ nwords, va_Nw w s := by
  intro w hw
  unfold nwords at hw
  simp only [List.mem_cons, List.not_mem_nil, or_false] at hw
  rcases hw with rfl | rfl | rfl | rfl
  · exact va_Nw.of rfl (hts _ (List.mem_of_getElem? (i := 412) (by decide +kernel)))
  · exact va_Nw.of rfl (hts _ (List.mem_of_getElem? (i := 433) (by decide +kernel)))
  · exact va_Nw.of rfl (hts _ (List.mem_of_getElem? (i := 516) (by decide +kernel)))
  · exact va_Nw.of rfl (hts _ (List.mem_of_getElem? (i := 626) (by decide +kernel)))
set_option maxRecDepth 100000 in
theorem st_nw2 {args : Array Value} {s : State} (hts : ∀ w ∈ lw_tbl, w.before args s = true) : ∀ w ∈ nw2, va_Nw w s := by
  intro w hw
  unfold nw2 at hw
  simp only [List.mem_cons, List.not_mem_nil, or_false] at hw
  rcases hw with rfl | rfl | rfl | rfl | rfl
  · exact va_Nw.of rfl (hts _ (List.mem_of_getElem? (i := 123) (by decide +kernel)))
  · exact va_Nw.of rfl (hts _ (List.mem_of_getElem? (i := 165) (by decide +kernel)))
  · exact va_Nw.of rfl (hts _ (List.mem_of_getElem? (i := 187) (by decide +kernel)))
  · exact va_Nw.of rfl (hts _ (List.mem_of_getElem? (i := 217) (by decide +kernel)))
  · exact va_Nw.of rfl (hts _ (List.mem_of_getElem? (i := 235) (by decide +kernel)))
set_option maxRecDepth 100000 in
theorem st_xw {args : Array Value} {s : State} (hts : ∀ w ∈ lw_tbl, w.before args s = true) : ∀ w ∈ xwords, va_Nw w s := by
  intro w hw
  unfold xwords at hw
  simp only [List.mem_cons, List.not_mem_nil, or_false] at hw
  rcases hw with rfl | rfl | rfl | rfl | rfl | rfl
  · exact va_Nw.of rfl (hts _ (List.mem_of_getElem? (i := 646) (by decide +kernel)))
  · exact va_Nw.of rfl (hts _ (List.mem_of_getElem? (i := 648) (by decide +kernel)))
  · exact va_Nw.of rfl (hts _ (List.mem_of_getElem? (i := 650) (by decide +kernel)))
  · exact va_Nw.of rfl (hts _ (List.mem_of_getElem? (i := 644) (by decide +kernel)))
  · exact va_Nw.of rfl (hts _ (List.mem_of_getElem? (i := 769) (by decide +kernel)))
  · exact va_Nw.of rfl (hts _ (List.mem_of_getElem? (i := 914) (by decide +kernel)))
set_option maxRecDepth 100000 in
theorem st_xs {args : Array Value} {s : State} (hts : ∀ w ∈ lw_tbl, w.before args s = true) : ∀ q ∈ xstrs, ∃ sa, vk_R "AlibiDeals" q.1 q.2 sa s := by
  intro q hq
  unfold xstrs at hq
  simp only [List.mem_cons, List.not_mem_nil, or_false] at hq
  rcases hq with rfl | rfl | rfl | rfl | rfl | rfl | rfl | rfl | rfl | rfl | rfl | rfl | rfl | rfl | rfl | rfl | rfl
  · exact str_R (hts _ (List.mem_of_getElem? (i := 814) (by decide +kernel)))
  · exact str_R (hts _ (List.mem_of_getElem? (i := 921) (by decide +kernel)))
  · exact str_R (hts _ (List.mem_of_getElem? (i := 928) (by decide +kernel)))
  · exact str_R (hts _ (List.mem_of_getElem? (i := 941) (by decide +kernel)))
  · exact str_R (hts _ (List.mem_of_getElem? (i := 966) (by decide +kernel)))
  · exact str_R (hts _ (List.mem_of_getElem? (i := 974) (by decide +kernel)))
  · exact str_R (hts _ (List.mem_of_getElem? (i := 734) (by decide +kernel)))
  · exact str_R (hts _ (List.mem_of_getElem? (i := 825) (by decide +kernel)))
  · exact str_R (hts _ (List.mem_of_getElem? (i := 1005) (by decide +kernel)))
  · exact str_R (hts _ (List.mem_of_getElem? (i := 1044) (by decide +kernel)))
  · exact str_R (hts _ (List.mem_of_getElem? (i := 852) (by decide +kernel)))
  · exact str_R (hts _ (List.mem_of_getElem? (i := 853) (by decide +kernel)))
  · exact str_R (hts _ (List.mem_of_getElem? (i := 854) (by decide +kernel)))
  · exact str_R (hts _ (List.mem_of_getElem? (i := 683) (by decide +kernel)))
  · exact str_R (hts _ (List.mem_of_getElem? (i := 830) (by decide +kernel)))
  · exact str_R (hts _ (List.mem_of_getElem? (i := 776) (by decide +kernel)))
  · exact str_R (hts _ (List.mem_of_getElem? (i := 1055) (by decide +kernel)))
set_option maxRecDepth 100000 in
theorem st_zq {args : Array Value} {s : State} (hts : ∀ w ∈ lw_tbl, w.before args s = true) (hgv : (Jvm.Cond.and given_1 narrow_1).before args s = true) {A : Nat → Prop} (hA : ∀ a : Nat, a < s.heap.size → ¬ A a) : zqU A s s.heap := by
  have hs := flat_of_before _ hgv
  exact ⟨vx_Zqof (hts _ (List.mem_of_getElem? (i := 669) (by decide +kernel))) (hts _ (List.mem_of_getElem? (i := 104) (by decide +kernel))) (hs _ (by decide +kernel)) hA, vx_Zqof (hts _ (List.mem_of_getElem? (i := 671) (by decide +kernel))) (hts _ (List.mem_of_getElem? (i := 104) (by decide +kernel))) (hs _ (by decide +kernel)) hA⟩
theorem st_nc {args : Array Value} {s : State} (hgv : (Jvm.Cond.and given_1 narrow_1).before args s = true) : va_Nc (xN 1) (xN 0) s ∧ va_Nc (xN 1) (xN 2) s := by
  have hs := flat_of_before _ hgv
  exact ⟨va_Nc.of (hs _ (by decide +kernel)), va_Nc.of (hs _ (by decide +kernel))⟩
theorem st_fl {l : Launch} (h : l.flags = flags0) : l.stackTraces = false := by
  unfold Launch.stackTraces
  rw [h]
  decide +kernel
theorem st_K {args : Array Value} {s : State} (hts : ∀ w ∈ lw_tbl, w.before args s = true) : ∃ (D : va_G) (cI cL cS : ClassId), va_K D vwCl (tys3 cI cL cS) s := by
  have htT : ∀ w ∈ TT, w.before args s = true := fun w hw => hts w (TT_tbl hw)
