/-! the methods that catch: their rows, checked (the instructions as the task prints them) -/
def rwL_exchange : List En := [(0, .aload_n 3, 1, 0), (1, .iconst 0, 1, 0), (2, .aload_n 0, 1, 0), (3, .iload_n 1, 1, 0), (4, .iload_n 2, 1, 0), (5, .invokevirtual 7, 3, kX5_exchange), (8, .i2l, 1, 0), (9, .lastore, 1, 0), (10, .goto 11, 3, 21), (13, .astore 4, 2, 0), (15, .iconst 1, 1, 0), (16, .ireturn, 1, 0), (17, .astore 4, 2, 0), (19, .iconst 2, 1, 0), (20, .ireturn, 1, 0), (21, .iconst 0, 1, 0), (22, .ireturn, 1, 0)]
def hhL_exchange : List (Nat × Nat × Nat × Nat) := [(0, 10, 13, 13), (0, 10, 17, 15)]
def cdL_exchange : Nat → Option Int32
  | 0 => some 1
  | 1 => some 2
  | _ => none
theorem wkL_exchange : WOK yL_exchange cL_exchange 5 hhL_exchange rwL_exchange cdL_exchange := by
  refine ⟨by decide +kernel, rfl, List.mem_filter.mpr ⟨List.mem_of_getElem? (i := 799) (by decide +kernel), rfl⟩, ⟨[[], [], [], [], [], [802, 803, 804, 97], [], [], [], [], [], [], [], [], [], [], []], by decide +kernel⟩, by decide +kernel, ?_⟩
  intro pc index a hm ex x hx
  simp only [rwL_exchange, List.mem_cons, List.not_mem_nil, or_false, Prod.mk.injEq, reduceCtorEq, false_and, and_false, or_false, false_or] at hm
  obtain ⟨rfl, -⟩ := hm
  match ex, hx with
  | 0, hx =>
    obtain rfl : (1 : Int32) = x := by injection hx
    exact ⟨by decide, [], ⟨0, 10, 13, 13⟩, [⟨0, 10, 17, 15⟩], 4, 1, rfl, by decide, (by decide), wd_mem (p := 800) (by decide +kernel), (fun w hw => by cases hw), by decide, rfl, _, Or.inl ⟨by decide +kernel, rfl⟩, by decide +kernel, by decide +kernel⟩
  | 1, hx =>
    obtain rfl : (2 : Int32) = x := by injection hx
    exact ⟨by decide, [⟨0, 10, 13, 13⟩], ⟨0, 10, 17, 15⟩, [], 4, 2, rfl, by decide, (by decide), wd_mem (p := 801) (by decide +kernel), (fun w hw => by
      obtain rfl := List.mem_singleton.mp hw
      exact ⟨(by decide), 0, wd_mem (p := 800) (by decide +kernel), rfl, Or.inl rfl⟩), by decide, rfl, _, Or.inl ⟨by decide +kernel, rfl⟩, by decide +kernel, by decide +kernel⟩
  | 2, hx => cases hx
  | q + 3, hx => cases hx
def rwL_noteHas : List En := [(0, .aload_n 3, 1, 0), (1, .iconst 0, 1, 0), (2, .aload_n 0, 1, 0), (3, .iload_n 1, 1, 0), (4, .iload_n 2, 1, 0), (5, .invokevirtual 17, 3, kX5_noteHas), (8, .i2l, 1, 0), (9, .lastore, 1, 0), (10, .goto 11, 3, 21), (13, .astore 4, 2, 0), (15, .iconst 1, 1, 0), (16, .ireturn, 1, 0), (17, .astore 4, 2, 0), (19, .iconst 2, 1, 0), (20, .ireturn, 1, 0), (21, .iconst 0, 1, 0), (22, .ireturn, 1, 0)]
def hhL_noteHas : List (Nat × Nat × Nat × Nat) := [(0, 10, 13, 13), (0, 10, 17, 15)]
def cdL_noteHas : Nat → Option Int32
  | 0 => some 1
  | 1 => some 2
  | _ => none
theorem wkL_noteHas : WOK yL_noteHas cL_noteHas 5 hhL_noteHas rwL_noteHas cdL_noteHas := by
  refine ⟨by decide +kernel, rfl, List.mem_filter.mpr ⟨List.mem_of_getElem? (i := 817) (by decide +kernel), rfl⟩, ⟨[[], [], [], [], [], [818, 819, 820, 97], [], [], [], [], [], [], [], [], [], [], []], by decide +kernel⟩, by decide +kernel, ?_⟩
  intro pc index a hm ex x hx
  simp only [rwL_noteHas, List.mem_cons, List.not_mem_nil, or_false, Prod.mk.injEq, reduceCtorEq, false_and, and_false, or_false, false_or] at hm
  obtain ⟨rfl, -⟩ := hm
  match ex, hx with
  | 0, hx =>
    obtain rfl : (1 : Int32) = x := by injection hx
    exact ⟨by decide, [], ⟨0, 10, 13, 13⟩, [⟨0, 10, 17, 15⟩], 4, 1, rfl, by decide, (by decide), wd_mem (p := 800) (by decide +kernel), (fun w hw => by cases hw), by decide, rfl, _, Or.inl ⟨by decide +kernel, rfl⟩, by decide +kernel, by decide +kernel⟩
  | 1, hx =>
    obtain rfl : (2 : Int32) = x := by injection hx
    exact ⟨by decide, [⟨0, 10, 13, 13⟩], ⟨0, 10, 17, 15⟩, [], 4, 2, rfl, by decide, (by decide), wd_mem (p := 801) (by decide +kernel), (fun w hw => by
      obtain rfl := List.mem_singleton.mp hw
      exact ⟨(by decide), 0, wd_mem (p := 800) (by decide +kernel), rfl, Or.inl rfl⟩), by decide, rfl, _, Or.inl ⟨by decide +kernel, rfl⟩, by decide +kernel, by decide +kernel⟩
  | 2, hx => cases hx
  | q + 3, hx => cases hx
def rwL_noteLacks : List En := [(0, .aload_n 3, 1, 0), (1, .iconst 0, 1, 0), (2, .aload_n 0, 1, 0), (3, .iload_n 1, 1, 0), (4, .iload_n 2, 1, 0), (5, .invokevirtual 20, 3, kX5_noteLacks), (8, .i2l, 1, 0), (9, .lastore, 1, 0), (10, .goto 11, 3, 21), (13, .astore 4, 2, 0), (15, .iconst 1, 1, 0), (16, .ireturn, 1, 0), (17, .astore 4, 2, 0), (19, .iconst 2, 1, 0), (20, .ireturn, 1, 0), (21, .iconst 0, 1, 0), (22, .ireturn, 1, 0)]
def hhL_noteLacks : List (Nat × Nat × Nat × Nat) := [(0, 10, 13, 13), (0, 10, 17, 15)]
def cdL_noteLacks : Nat → Option Int32
  | 0 => some 1
  | 1 => some 2
  | _ => none
theorem wkL_noteLacks : WOK yL_noteLacks cL_noteLacks 5 hhL_noteLacks rwL_noteLacks cdL_noteLacks := by
  refine ⟨by decide +kernel, rfl, List.mem_filter.mpr ⟨List.mem_of_getElem? (i := 837) (by decide +kernel), rfl⟩, ⟨[[], [], [], [], [], [838, 839, 840, 97], [], [], [], [], [], [], [], [], [], [], []], by decide +kernel⟩, by decide +kernel, ?_⟩
  intro pc index a hm ex x hx
  simp only [rwL_noteLacks, List.mem_cons, List.not_mem_nil, or_false, Prod.mk.injEq, reduceCtorEq, false_and, and_false, or_false, false_or] at hm
  obtain ⟨rfl, -⟩ := hm
  match ex, hx with
  | 0, hx =>
    obtain rfl : (1 : Int32) = x := by injection hx
    exact ⟨by decide, [], ⟨0, 10, 13, 13⟩, [⟨0, 10, 17, 15⟩], 4, 1, rfl, by decide, (by decide), wd_mem (p := 800) (by decide +kernel), (fun w hw => by cases hw), by decide, rfl, _, Or.inl ⟨by decide +kernel, rfl⟩, by decide +kernel, by decide +kernel⟩
  | 1, hx =>
    obtain rfl : (2 : Int32) = x := by injection hx
    exact ⟨by decide, [⟨0, 10, 13, 13⟩], ⟨0, 10, 17, 15⟩, [], 4, 2, rfl, by decide, (by decide), wd_mem (p := 801) (by decide +kernel), (fun w hw => by
      obtain rfl := List.mem_singleton.mp hw
      exact ⟨(by decide), 0, wd_mem (p := 800) (by decide +kernel), rfl, Or.inl rfl⟩), by decide, rfl, _, Or.inl ⟨by decide +kernel, rfl⟩, by decide +kernel, by decide +kernel⟩
  | 2, hx => cases hx
  | q + 3, hx => cases hx
def rwL_noteShows : List En := [(0, .aload 5, 2, 0), (2, .iconst 0, 1, 0), (3, .aload_n 0, 1, 0), (4, .iload_n 1, 1, 0), (5, .iload_n 2, 1, 0), (6, .iload_n 3, 1, 0), (7, .iload 4, 2, 0), (9, .invokevirtual 23, 3, kX5_noteShows), (12, .i2l, 1, 0), (13, .lastore, 1, 0), (14, .goto 11, 3, 25), (17, .astore 6, 2, 0), (19, .iconst 1, 1, 0), (20, .ireturn, 1, 0), (21, .astore 6, 2, 0), (23, .iconst 2, 1, 0), (24, .ireturn, 1, 0), (25, .iconst 0, 1, 0), (26, .ireturn, 1, 0)]
def hhL_noteShows : List (Nat × Nat × Nat × Nat) := [(0, 14, 17, 13), (0, 14, 21, 15)]
def cdL_noteShows : Nat → Option Int32
  | 0 => some 1
  | 1 => some 2
  | _ => none
theorem wkL_noteShows : WOK yL_noteShows cL_noteShows 7 hhL_noteShows rwL_noteShows cdL_noteShows := by
  refine ⟨by decide +kernel, rfl, List.mem_filter.mpr ⟨List.mem_of_getElem? (i := 844) (by decide +kernel), rfl⟩, ⟨[[], [], [], [], [], [], [], [845, 846, 847, 97], [], [], [], [], [], [], [], [], [], [], []], by decide +kernel⟩, by decide +kernel, ?_⟩
  intro pc index a hm ex x hx
  simp only [rwL_noteShows, List.mem_cons, List.not_mem_nil, or_false, Prod.mk.injEq, reduceCtorEq, false_and, and_false, or_false, false_or] at hm
  obtain ⟨rfl, -⟩ := hm
  match ex, hx with
  | 0, hx =>
    obtain rfl : (1 : Int32) = x := by injection hx
    exact ⟨by decide, [], ⟨0, 14, 17, 13⟩, [⟨0, 14, 21, 15⟩], 6, 1, rfl, by decide, (by decide), wd_mem (p := 800) (by decide +kernel), (fun w hw => by cases hw), by decide, rfl, _, Or.inl ⟨by decide +kernel, rfl⟩, by decide +kernel, by decide +kernel⟩
  | 1, hx =>
    obtain rfl : (2 : Int32) = x := by injection hx
    exact ⟨by decide, [⟨0, 14, 17, 13⟩], ⟨0, 14, 21, 15⟩, [], 6, 2, rfl, by decide, (by decide), wd_mem (p := 801) (by decide +kernel), (fun w hw => by
      obtain rfl := List.mem_singleton.mp hw
      exact ⟨(by decide), 0, wd_mem (p := 800) (by decide +kernel), rfl, Or.inl rfl⟩), by decide, rfl, _, Or.inl ⟨by decide +kernel, rfl⟩, by decide +kernel, by decide +kernel⟩
  | 2, hx => cases hx
  | q + 3, hx => cases hx
def rwL_dropClue : List En := [(0, .aload_n 2, 1, 0), (1, .iconst 0, 1, 0), (2, .aload_n 0, 1, 0), (3, .iload_n 1, 1, 0), (4, .invokevirtual 27, 3, kX5_dropClue), (7, .i2l, 1, 0), (8, .lastore, 1, 0), (9, .goto 6, 3, 15), (12, .astore_n 3, 1, 0), (13, .iconst 1, 1, 0), (14, .ireturn, 1, 0), (15, .iconst 0, 1, 0), (16, .ireturn, 1, 0)]
def hhL_dropClue : List (Nat × Nat × Nat × Nat) := [(0, 9, 12, 13)]
def cdL_dropClue : Nat → Option Int32
  | 0 => some 1
  | _ => none
theorem wkL_dropClue : WOK yL_dropClue cL_dropClue 4 hhL_dropClue rwL_dropClue cdL_dropClue := by
  refine ⟨by decide +kernel, rfl, List.mem_filter.mpr ⟨List.mem_of_getElem? (i := 857) (by decide +kernel), rfl⟩, ⟨[[], [], [], [], [858, 859, 860, 97], [], [], [], [], [], [], [], []], by decide +kernel⟩, by decide +kernel, ?_⟩
  intro pc index a hm ex x hx
  simp only [rwL_dropClue, List.mem_cons, List.not_mem_nil, or_false, Prod.mk.injEq, reduceCtorEq, false_and, and_false, or_false, false_or] at hm
  obtain ⟨rfl, -⟩ := hm
  match ex, hx with
  | 0, hx =>
    obtain rfl : (1 : Int32) = x := by injection hx
    exact ⟨by decide, [], ⟨0, 9, 12, 13⟩, [], 3, 1, rfl, by decide, (by decide), wd_mem (p := 800) (by decide +kernel), (fun w hw => by cases hw), by decide, rfl, _, Or.inr ⟨3, rfl, by decide +kernel, rfl⟩, by decide +kernel, by decide +kernel⟩
  | 1, hx => cases hx
  | 2, hx => cases hx
  | q + 3, hx => cases hx
def rwL_ask : List En := [(0, .aload 5, 2, 0), (2, .iconst 0, 1, 0), (3, .aload_n 0, 1, 0), (4, .iload_n 1, 1, 0), (5, .iload_n 2, 1, 0), (6, .iload_n 3, 1, 0), (7, .iload 4, 2, 0), (9, .invokevirtual 31, 3, kX5_ask), (12, .ifCond .eq 7, 3, 19), (15, .lconst 1, 1, 0), (16, .goto 4, 3, 20), (19, .lconst 0, 1, 0), (20, .lastore, 1, 0), (21, .goto 11, 3, 32), (24, .astore 6, 2, 0), (26, .iconst 1, 1, 0), (27, .ireturn, 1, 0), (28, .astore 6, 2, 0), (30, .iconst 2, 1, 0), (31, .ireturn, 1, 0), (32, .iconst 0, 1, 0), (33, .ireturn, 1, 0)]
def hhL_ask : List (Nat × Nat × Nat × Nat) := [(0, 21, 24, 13), (0, 21, 28, 15)]
def cdL_ask : Nat → Option Int32
  | 0 => some 1
  | 1 => some 2
  | _ => none
theorem wkL_ask : WOK yL_ask cL_ask 7 hhL_ask rwL_ask cdL_ask := by
  refine ⟨by decide +kernel, rfl, List.mem_filter.mpr ⟨List.mem_of_getElem? (i := 868) (by decide +kernel), rfl⟩, ⟨[[], [], [], [], [], [], [], [869, 870, 871, 97], [], [], [], [], [], [], [], [], [], [], [], [], [], []], by decide +kernel⟩, by decide +kernel, ?_⟩
  intro pc index a hm ex x hx
  simp only [rwL_ask, List.mem_cons, List.not_mem_nil, or_false, Prod.mk.injEq, reduceCtorEq, false_and, and_false, or_false, false_or] at hm
  obtain ⟨rfl, -⟩ := hm
  match ex, hx with
  | 0, hx =>
    obtain rfl : (1 : Int32) = x := by injection hx
    exact ⟨by decide, [], ⟨0, 21, 24, 13⟩, [⟨0, 21, 28, 15⟩], 6, 1, rfl, by decide, (by decide), wd_mem (p := 800) (by decide +kernel), (fun w hw => by cases hw), by decide, rfl, _, Or.inl ⟨by decide +kernel, rfl⟩, by decide +kernel, by decide +kernel⟩
  | 1, hx =>
    obtain rfl : (2 : Int32) = x := by injection hx
    exact ⟨by decide, [⟨0, 21, 24, 13⟩], ⟨0, 21, 28, 15⟩, [], 6, 2, rfl, by decide, (by decide), wd_mem (p := 801) (by decide +kernel), (fun w hw => by
      obtain rfl := List.mem_singleton.mp hw
      exact ⟨(by decide), 0, wd_mem (p := 800) (by decide +kernel), rfl, Or.inl rfl⟩), by decide, rfl, _, Or.inl ⟨by decide +kernel, rfl⟩, by decide +kernel, by decide +kernel⟩
  | 2, hx => cases hx
  | q + 3, hx => cases hx
def rwL_look : List En := [(0, .aload 5, 2, 0), (2, .iconst 0, 1, 0), (3, .aload_n 0, 1, 0), (4, .iload_n 1, 1, 0), (5, .iload_n 2, 1, 0), (6, .iload_n 3, 1, 0), (7, .iload 4, 2, 0), (9, .invokevirtual 35, 3, kX5_look), (12, .i2l, 1, 0), (13, .lastore, 1, 0), (14, .goto 11, 3, 25), (17, .astore 6, 2, 0), (19, .iconst 1, 1, 0), (20, .ireturn, 1, 0), (21, .astore 6, 2, 0), (23, .iconst 2, 1, 0), (24, .ireturn, 1, 0), (25, .iconst 0, 1, 0), (26, .ireturn, 1, 0)]
def hhL_look : List (Nat × Nat × Nat × Nat) := [(0, 14, 17, 13), (0, 14, 21, 15)]
def cdL_look : Nat → Option Int32
  | 0 => some 1
  | 1 => some 2
  | _ => none
theorem wkL_look : WOK yL_look cL_look 7 hhL_look rwL_look cdL_look := by
  refine ⟨by decide +kernel, rfl, List.mem_filter.mpr ⟨List.mem_of_getElem? (i := 884) (by decide +kernel), rfl⟩, ⟨[[], [], [], [], [], [], [], [885, 886, 887, 97], [], [], [], [], [], [], [], [], [], [], []], by decide +kernel⟩, by decide +kernel, ?_⟩
  intro pc index a hm ex x hx
  simp only [rwL_look, List.mem_cons, List.not_mem_nil, or_false, Prod.mk.injEq, reduceCtorEq, false_and, and_false, or_false, false_or] at hm
  obtain ⟨rfl, -⟩ := hm
  match ex, hx with
  | 0, hx =>
    obtain rfl : (1 : Int32) = x := by injection hx
    exact ⟨by decide, [], ⟨0, 14, 17, 13⟩, [⟨0, 14, 21, 15⟩], 6, 1, rfl, by decide, (by decide), wd_mem (p := 800) (by decide +kernel), (fun w hw => by cases hw), by decide, rfl, _, Or.inl ⟨by decide +kernel, rfl⟩, by decide +kernel, by decide +kernel⟩
  | 1, hx =>
    obtain rfl : (2 : Int32) = x := by injection hx
    exact ⟨by decide, [⟨0, 14, 17, 13⟩], ⟨0, 14, 21, 15⟩, [], 6, 2, rfl, by decide, (by decide), wd_mem (p := 801) (by decide +kernel), (fun w hw => by
      obtain rfl := List.mem_singleton.mp hw
      exact ⟨(by decide), 0, wd_mem (p := 800) (by decide +kernel), rfl, Or.inl rfl⟩), by decide, rfl, _, Or.inl ⟨by decide +kernel, rfl⟩, by decide +kernel, by decide +kernel⟩
  | 2, hx => cases hx
  | q + 3, hx => cases hx
def rwL_accuse : List En := [(0, .aload 4, 2, 0), (2, .iconst 0, 1, 0), (3, .aload_n 0, 1, 0), (4, .iload_n 1, 1, 0), (5, .iload_n 2, 1, 0), (6, .iload_n 3, 1, 0), (7, .invokevirtual 38, 3, kX5_accuse), (10, .ifCond .eq 7, 3, 17), (13, .lconst 1, 1, 0), (14, .goto 4, 3, 18), (17, .lconst 0, 1, 0), (18, .lastore, 1, 0), (19, .goto 11, 3, 30), (22, .astore 5, 2, 0), (24, .iconst 1, 1, 0), (25, .ireturn, 1, 0), (26, .astore 5, 2, 0), (28, .iconst 2, 1, 0), (29, .ireturn, 1, 0), (30, .iconst 0, 1, 0), (31, .ireturn, 1, 0)]
def hhL_accuse : List (Nat × Nat × Nat × Nat) := [(0, 19, 22, 13), (0, 19, 26, 15)]
def cdL_accuse : Nat → Option Int32
  | 0 => some 1
  | 1 => some 2
  | _ => none
theorem wkL_accuse : WOK yL_accuse cL_accuse 6 hhL_accuse rwL_accuse cdL_accuse := by
  refine ⟨by decide +kernel, rfl, List.mem_filter.mpr ⟨List.mem_of_getElem? (i := 895) (by decide +kernel), rfl⟩, ⟨[[], [], [], [], [], [], [896, 897, 898, 97], [], [], [], [], [], [], [], [], [], [], [], [], [], []], by decide +kernel⟩, by decide +kernel, ?_⟩
  intro pc index a hm ex x hx
  simp only [rwL_accuse, List.mem_cons, List.not_mem_nil, or_false, Prod.mk.injEq, reduceCtorEq, false_and, and_false, or_false, false_or] at hm
  obtain ⟨rfl, -⟩ := hm
  match ex, hx with
  | 0, hx =>
    obtain rfl : (1 : Int32) = x := by injection hx
    exact ⟨by decide, [], ⟨0, 19, 22, 13⟩, [⟨0, 19, 26, 15⟩], 5, 1, rfl, by decide, (by decide), wd_mem (p := 800) (by decide +kernel), (fun w hw => by cases hw), by decide, rfl, _, Or.inl ⟨by decide +kernel, rfl⟩, by decide +kernel, by decide +kernel⟩
  | 1, hx =>
    obtain rfl : (2 : Int32) = x := by injection hx
    exact ⟨by decide, [⟨0, 19, 22, 13⟩], ⟨0, 19, 26, 15⟩, [], 5, 2, rfl, by decide, (by decide), wd_mem (p := 801) (by decide +kernel), (fun w hw => by
      obtain rfl := List.mem_singleton.mp hw
      exact ⟨(by decide), 0, wd_mem (p := 800) (by decide +kernel), rfl, Or.inl rfl⟩), by decide, rfl, _, Or.inl ⟨by decide +kernel, rfl⟩, by decide +kernel, by decide +kernel⟩
  | 2, hx => cases hx
  | q + 3, hx => cases hx
def rwL_append : List En := [(0, .aload_n 2, 1, 0), (1, .iconst 0, 1, 0), (2, .aload_n 0, 1, 0), (3, .iload_n 1, 1, 0), (4, .invokevirtual 42, 3, kX5_append), (7, .i2l, 1, 0), (8, .lastore, 1, 0), (9, .goto 9, 3, 18), (12, .astore_n 3, 1, 0), (13, .iconst 1, 1, 0), (14, .ireturn, 1, 0), (15, .astore_n 3, 1, 0), (16, .iconst 2, 1, 0), (17, .ireturn, 1, 0), (18, .iconst 0, 1, 0), (19, .ireturn, 1, 0)]
def hhL_append : List (Nat × Nat × Nat × Nat) := [(0, 9, 12, 45), (0, 9, 15, 15)]
def cdL_append : Nat → Option Int32
  | 2 => some 1
  | 1 => some 2
  | _ => none
theorem wkL_append : WOK yL_append cL_append 4 hhL_append rwL_append cdL_append := by
  refine ⟨by decide +kernel, rfl, List.mem_filter.mpr ⟨List.mem_of_getElem? (i := 906) (by decide +kernel), rfl⟩, ⟨[[], [], [], [], [908, 909, 910, 97], [], [], [], [], [], [], [], [], [], [], []], by decide +kernel⟩, by decide +kernel, ?_⟩
  intro pc index a hm ex x hx
  simp only [rwL_append, List.mem_cons, List.not_mem_nil, or_false, Prod.mk.injEq, reduceCtorEq, false_and, and_false, or_false, false_or] at hm
  obtain ⟨rfl, -⟩ := hm
  match ex, hx with
  | 2, hx =>
    obtain rfl : (1 : Int32) = x := by injection hx
    exact ⟨by decide, [], ⟨0, 9, 12, 45⟩, [⟨0, 9, 15, 15⟩], 3, 1, rfl, by decide, (by decide), wd_mem (p := 907) (by decide +kernel), (fun w hw => by cases hw), by decide, rfl, _, Or.inr ⟨3, rfl, by decide +kernel, rfl⟩, by decide +kernel, by decide +kernel⟩
  | 1, hx =>
    obtain rfl : (2 : Int32) = x := by injection hx
    exact ⟨by decide, [⟨0, 9, 12, 45⟩], ⟨0, 9, 15, 15⟩, [], 3, 2, rfl, by decide, (by decide), wd_mem (p := 801) (by decide +kernel), (fun w hw => by
      obtain rfl := List.mem_singleton.mp hw
      exact ⟨(by decide), 2, wd_mem (p := 907) (by decide +kernel), rfl, Or.inr rfl⟩), by decide, rfl, _, Or.inr ⟨3, rfl, by decide +kernel, rfl⟩, by decide +kernel, by decide +kernel⟩
  | 0, hx => cases hx
  | q + 3, hx => cases hx
def rwL_work : List En := [(0, .aload_n 1, 1, 0), (1, .iconst 0, 1, 0), (2, .aload_n 0, 1, 0), (3, .invokevirtual 47, 3, kX5_work), (6, .i2l, 1, 0), (7, .lastore, 1, 0), (8, .goto 6, 3, 14), (11, .astore_n 2, 1, 0), (12, .iconst 1, 1, 0), (13, .ireturn, 1, 0), (14, .iconst 0, 1, 0), (15, .ireturn, 1, 0)]
def hhL_work : List (Nat × Nat × Nat × Nat) := [(0, 8, 11, 45)]
def cdL_work : Nat → Option Int32
  | 2 => some 1
  | _ => none
theorem wkL_work : WOK yL_work cL_work 3 hhL_work rwL_work cdL_work := by
  refine ⟨by decide +kernel, rfl, List.mem_filter.mpr ⟨List.mem_of_getElem? (i := 931) (by decide +kernel), rfl⟩, ⟨[[], [], [], [932, 933, 934, 97], [], [], [], [], [], [], [], []], by decide +kernel⟩, by decide +kernel, ?_⟩
  intro pc index a hm ex x hx
  simp only [rwL_work, List.mem_cons, List.not_mem_nil, or_false, Prod.mk.injEq, reduceCtorEq, false_and, and_false, or_false, false_or] at hm
  obtain ⟨rfl, -⟩ := hm
  match ex, hx with
  | 2, hx =>
    obtain rfl : (1 : Int32) = x := by injection hx
    exact ⟨by decide, [], ⟨0, 8, 11, 45⟩, [], 2, 1, rfl, by decide, (by decide), wd_mem (p := 907) (by decide +kernel), (fun w hw => by cases hw), by decide, rfl, _, Or.inr ⟨2, rfl, by decide +kernel, rfl⟩, by decide +kernel, by decide +kernel⟩
  | 0, hx => cases hx
  | 1, hx => cases hx
  | q + 3, hx => cases hx
def rwL_stoppedPart : List En := [(0, .aload_n 1, 1, 0), (1, .iconst 0, 1, 0), (2, .aload_n 0, 1, 0), (3, .invokevirtual 51, 3, kX5_stoppedPart), (6, .i2l, 1, 0), (7, .lastore, 1, 0), (8, .goto 6, 3, 14), (11, .astore_n 2, 1, 0), (12, .iconst 1, 1, 0), (13, .ireturn, 1, 0), (14, .iconst 0, 1, 0), (15, .ireturn, 1, 0)]
def hhL_stoppedPart : List (Nat × Nat × Nat × Nat) := [(0, 8, 11, 15)]
def cdL_stoppedPart : Nat → Option Int32
  | 1 => some 1
  | _ => none
theorem wkL_stoppedPart : WOK yL_stoppedPart cL_stoppedPart 3 hhL_stoppedPart rwL_stoppedPart cdL_stoppedPart := by
  refine ⟨by decide +kernel, rfl, List.mem_filter.mpr ⟨List.mem_of_getElem? (i := 953) (by decide +kernel), rfl⟩, ⟨[[], [], [], [954, 760, 761, 97], [], [], [], [], [], [], [], []], by decide +kernel⟩, by decide +kernel, ?_⟩
  intro pc index a hm ex x hx
  simp only [rwL_stoppedPart, List.mem_cons, List.not_mem_nil, or_false, Prod.mk.injEq, reduceCtorEq, false_and, and_false, or_false, false_or] at hm
  obtain ⟨rfl, -⟩ := hm
  match ex, hx with
  | 1, hx =>
    obtain rfl : (1 : Int32) = x := by injection hx
    exact ⟨by decide, [], ⟨0, 8, 11, 15⟩, [], 2, 1, rfl, by decide, (by decide), wd_mem (p := 801) (by decide +kernel), (fun w hw => by cases hw), by decide, rfl, _, Or.inr ⟨2, rfl, by decide +kernel, rfl⟩, by decide +kernel, by decide +kernel⟩
  | 0, hx => cases hx
  | 2, hx => cases hx
  | q + 3, hx => cases hx
def rwL_whyStopped : List En := [(0, .aload_n 1, 1, 0), (1, .iconst 0, 1, 0), (2, .aload_n 0, 1, 0), (3, .invokevirtual 54, 3, kX5_whyStopped), (6, .i2l, 1, 0), (7, .lastore, 1, 0), (8, .goto 6, 3, 14), (11, .astore_n 2, 1, 0), (12, .iconst 1, 1, 0), (13, .ireturn, 1, 0), (14, .iconst 0, 1, 0), (15, .ireturn, 1, 0)]
def hhL_whyStopped : List (Nat × Nat × Nat × Nat) := [(0, 8, 11, 15)]
def cdL_whyStopped : Nat → Option Int32
  | 1 => some 1
  | _ => none
theorem wkL_whyStopped : WOK yL_whyStopped cL_whyStopped 3 hhL_whyStopped rwL_whyStopped cdL_whyStopped := by
  refine ⟨by decide +kernel, rfl, List.mem_filter.mpr ⟨List.mem_of_getElem? (i := 957) (by decide +kernel), rfl⟩, ⟨[[], [], [], [958, 784, 785, 97], [], [], [], [], [], [], [], []], by decide +kernel⟩, by decide +kernel, ?_⟩
  intro pc index a hm ex x hx
  simp only [rwL_whyStopped, List.mem_cons, List.not_mem_nil, or_false, Prod.mk.injEq, reduceCtorEq, false_and, and_false, or_false, false_or] at hm
  obtain ⟨rfl, -⟩ := hm
  match ex, hx with
  | 1, hx =>
    obtain rfl : (1 : Int32) = x := by injection hx
    exact ⟨by decide, [], ⟨0, 8, 11, 15⟩, [], 2, 1, rfl, by decide, (by decide), wd_mem (p := 801) (by decide +kernel), (fun w hw => by cases hw), by decide, rfl, _, Or.inr ⟨2, rfl, by decide +kernel, rfl⟩, by decide +kernel, by decide +kernel⟩
  | 0, hx => cases hx
  | 2, hx => cases hx
  | q + 3, hx => cases hx
def rwL_undo : List En := [(0, .aload_n 1, 1, 0), (1, .iconst 0, 1, 0), (2, .aload_n 0, 1, 0), (3, .invokevirtual 57, 3, kX5_undo), (6, .i2l, 1, 0), (7, .lastore, 1, 0), (8, .goto 6, 3, 14), (11, .astore_n 2, 1, 0), (12, .iconst 1, 1, 0), (13, .ireturn, 1, 0), (14, .iconst 0, 1, 0), (15, .ireturn, 1, 0)]
def hhL_undo : List (Nat × Nat × Nat × Nat) := [(0, 8, 11, 15)]
def cdL_undo : Nat → Option Int32
  | 1 => some 1
  | _ => none
theorem wkL_undo : WOK yL_undo cL_undo 3 hhL_undo rwL_undo cdL_undo := by
  refine ⟨by decide +kernel, rfl, List.mem_filter.mpr ⟨List.mem_of_getElem? (i := 961) (by decide +kernel), rfl⟩, ⟨[[], [], [], [962, 963, 964, 97], [], [], [], [], [], [], [], []], by decide +kernel⟩, by decide +kernel, ?_⟩
  intro pc index a hm ex x hx
  simp only [rwL_undo, List.mem_cons, List.not_mem_nil, or_false, Prod.mk.injEq, reduceCtorEq, false_and, and_false, or_false, false_or] at hm
  obtain ⟨rfl, -⟩ := hm
  match ex, hx with
  | 1, hx =>
    obtain rfl : (1 : Int32) = x := by injection hx
    exact ⟨by decide, [], ⟨0, 8, 11, 15⟩, [], 2, 1, rfl, by decide, (by decide), wd_mem (p := 801) (by decide +kernel), (fun w hw => by cases hw), by decide, rfl, _, Or.inr ⟨2, rfl, by decide +kernel, rfl⟩, by decide +kernel, by decide +kernel⟩
  | 0, hx => cases hx
  | 2, hx => cases hx
  | q + 3, hx => cases hx
def rwL_restore : List En := [(0, .aload_n 1, 1, 0), (1, .iconst 0, 1, 0), (2, .aload_n 0, 1, 0), (3, .invokevirtual 60, 3, kX5_restore), (6, .i2l, 1, 0), (7, .lastore, 1, 0), (8, .goto 6, 3, 14), (11, .astore_n 2, 1, 0), (12, .iconst 1, 1, 0), (13, .ireturn, 1, 0), (14, .iconst 0, 1, 0), (15, .ireturn, 1, 0)]
def hhL_restore : List (Nat × Nat × Nat × Nat) := [(0, 8, 11, 15)]
def cdL_restore : Nat → Option Int32
  | 1 => some 1
  | _ => none
theorem wkL_restore : WOK yL_restore cL_restore 3 hhL_restore rwL_restore cdL_restore := by
  refine ⟨by decide +kernel, rfl, List.mem_filter.mpr ⟨List.mem_of_getElem? (i := 969) (by decide +kernel), rfl⟩, ⟨[[], [], [], [970, 971, 972, 97], [], [], [], [], [], [], [], []], by decide +kernel⟩, by decide +kernel, ?_⟩
  intro pc index a hm ex x hx
  simp only [rwL_restore, List.mem_cons, List.not_mem_nil, or_false, Prod.mk.injEq, reduceCtorEq, false_and, and_false, or_false, false_or] at hm
  obtain ⟨rfl, -⟩ := hm
  match ex, hx with
  | 1, hx =>
    obtain rfl : (1 : Int32) = x := by injection hx
    exact ⟨by decide, [], ⟨0, 8, 11, 15⟩, [], 2, 1, rfl, by decide, (by decide), wd_mem (p := 801) (by decide +kernel), (fun w hw => by cases hw), by decide, rfl, _, Or.inr ⟨2, rfl, by decide +kernel, rfl⟩, by decide +kernel, by decide +kernel⟩
  | 0, hx => cases hx
  | 2, hx => cases hx
  | q + 3, hx => cases hx
def rwL_truePlace : List En := [(0, .aload_n 2, 1, 0), (1, .iconst 0, 1, 0), (2, .aload_n 0, 1, 0), (3, .iload_n 1, 1, 0), (4, .invokevirtual 63, 3, kX5_truePlace), (7, .i2l, 1, 0), (8, .lastore, 1, 0), (9, .goto 6, 3, 15), (12, .astore_n 3, 1, 0), (13, .iconst 1, 1, 0), (14, .ireturn, 1, 0), (15, .iconst 0, 1, 0), (16, .ireturn, 1, 0)]
def hhL_truePlace : List (Nat × Nat × Nat × Nat) := [(0, 9, 12, 13)]
def cdL_truePlace : Nat → Option Int32
  | 0 => some 1
  | _ => none
theorem wkL_truePlace : WOK yL_truePlace cL_truePlace 4 hhL_truePlace rwL_truePlace cdL_truePlace := by
  refine ⟨by decide +kernel, rfl, List.mem_filter.mpr ⟨List.mem_of_getElem? (i := 977) (by decide +kernel), rfl⟩, ⟨[[], [], [], [], [978, 728, 729, 97], [], [], [], [], [], [], [], []], by decide +kernel⟩, by decide +kernel, ?_⟩
  intro pc index a hm ex x hx
  simp only [rwL_truePlace, List.mem_cons, List.not_mem_nil, or_false, Prod.mk.injEq, reduceCtorEq, false_and, and_false, or_false, false_or] at hm
  obtain ⟨rfl, -⟩ := hm
  match ex, hx with
  | 0, hx =>
    obtain rfl : (1 : Int32) = x := by injection hx
    exact ⟨by decide, [], ⟨0, 9, 12, 13⟩, [], 3, 1, rfl, by decide, (by decide), wd_mem (p := 800) (by decide +kernel), (fun w hw => by cases hw), by decide, rfl, _, Or.inr ⟨3, rfl, by decide +kernel, rfl⟩, by decide +kernel, by decide +kernel⟩
  | 1, hx => cases hx
  | 2, hx => cases hx
  | q + 3, hx => cases hx
def rwL_kindOf : List En := [(0, .aload_n 2, 1, 0), (1, .iconst 0, 1, 0), (2, .aload_n 0, 1, 0), (3, .iload_n 1, 1, 0), (4, .invokevirtual 66, 3, kX5_kindOf), (7, .i2l, 1, 0), (8, .lastore, 1, 0), (9, .goto 6, 3, 15), (12, .astore_n 3, 1, 0), (13, .iconst 1, 1, 0), (14, .ireturn, 1, 0), (15, .iconst 0, 1, 0), (16, .ireturn, 1, 0)]
def hhL_kindOf : List (Nat × Nat × Nat × Nat) := [(0, 9, 12, 13)]
def cdL_kindOf : Nat → Option Int32
  | 0 => some 1
  | _ => none
theorem wkL_kindOf : WOK yL_kindOf cL_kindOf 4 hhL_kindOf rwL_kindOf cdL_kindOf := by
  refine ⟨by decide +kernel, rfl, List.mem_filter.mpr ⟨List.mem_of_getElem? (i := 981) (by decide +kernel), rfl⟩, ⟨[[], [], [], [], [982, 635, 636, 97], [], [], [], [], [], [], [], []], by decide +kernel⟩, by decide +kernel, ?_⟩
  intro pc index a hm ex x hx
  simp only [rwL_kindOf, List.mem_cons, List.not_mem_nil, or_false, Prod.mk.injEq, reduceCtorEq, false_and, and_false, or_false, false_or] at hm
  obtain ⟨rfl, -⟩ := hm
  match ex, hx with
  | 0, hx =>
    obtain rfl : (1 : Int32) = x := by injection hx
    exact ⟨by decide, [], ⟨0, 9, 12, 13⟩, [], 3, 1, rfl, by decide, (by decide), wd_mem (p := 800) (by decide +kernel), (fun w hw => by cases hw), by decide, rfl, _, Or.inr ⟨3, rfl, by decide +kernel, rfl⟩, by decide +kernel, by decide +kernel⟩
  | 1, hx => cases hx
  | 2, hx => cases hx
  | q + 3, hx => cases hx
def rwL_playerOf : List En := [(0, .aload_n 2, 1, 0), (1, .iconst 0, 1, 0), (2, .aload_n 0, 1, 0), (3, .iload_n 1, 1, 0), (4, .invokevirtual 69, 3, kX5_playerOf), (7, .i2l, 1, 0), (8, .lastore, 1, 0), (9, .goto 6, 3, 15), (12, .astore_n 3, 1, 0), (13, .iconst 1, 1, 0), (14, .ireturn, 1, 0), (15, .iconst 0, 1, 0), (16, .ireturn, 1, 0)]
def hhL_playerOf : List (Nat × Nat × Nat × Nat) := [(0, 9, 12, 13)]
def cdL_playerOf : Nat → Option Int32
  | 0 => some 1
  | _ => none
theorem wkL_playerOf : WOK yL_playerOf cL_playerOf 4 hhL_playerOf rwL_playerOf cdL_playerOf := by
  refine ⟨by decide +kernel, rfl, List.mem_filter.mpr ⟨List.mem_of_getElem? (i := 985) (by decide +kernel), rfl⟩, ⟨[[], [], [], [], [986, 711, 712, 97], [], [], [], [], [], [], [], []], by decide +kernel⟩, by decide +kernel, ?_⟩
  intro pc index a hm ex x hx
  simp only [rwL_playerOf, List.mem_cons, List.not_mem_nil, or_false, Prod.mk.injEq, reduceCtorEq, false_and, and_false, or_false, false_or] at hm
  obtain ⟨rfl, -⟩ := hm
  match ex, hx with
  | 0, hx =>
    obtain rfl : (1 : Int32) = x := by injection hx
    exact ⟨by decide, [], ⟨0, 9, 12, 13⟩, [], 3, 1, rfl, by decide, (by decide), wd_mem (p := 800) (by decide +kernel), (fun w hw => by cases hw), by decide, rfl, _, Or.inr ⟨3, rfl, by decide +kernel, rfl⟩, by decide +kernel, by decide +kernel⟩
  | 1, hx => cases hx
  | 2, hx => cases hx
  | q + 3, hx => cases hx
def rwL_cardsOf : List En := [(0, .aload_n 2, 1, 0), (1, .iconst 0, 1, 0), (2, .aload_n 0, 1, 0), (3, .iload_n 1, 1, 0), (4, .invokevirtual 72, 3, kX5_cardsOf), (7, .i2l, 1, 0), (8, .lastore, 1, 0), (9, .goto 6, 3, 15), (12, .astore_n 3, 1, 0), (13, .iconst 1, 1, 0), (14, .ireturn, 1, 0), (15, .iconst 0, 1, 0), (16, .ireturn, 1, 0)]
def hhL_cardsOf : List (Nat × Nat × Nat × Nat) := [(0, 9, 12, 13)]
def cdL_cardsOf : Nat → Option Int32
  | 0 => some 1
  | _ => none
theorem wkL_cardsOf : WOK yL_cardsOf cL_cardsOf 4 hhL_cardsOf rwL_cardsOf cdL_cardsOf := by
  refine ⟨by decide +kernel, rfl, List.mem_filter.mpr ⟨List.mem_of_getElem? (i := 989) (by decide +kernel), rfl⟩, ⟨[[], [], [], [], [990, 715, 716, 97], [], [], [], [], [], [], [], []], by decide +kernel⟩, by decide +kernel, ?_⟩
  intro pc index a hm ex x hx
  simp only [rwL_cardsOf, List.mem_cons, List.not_mem_nil, or_false, Prod.mk.injEq, reduceCtorEq, false_and, and_false, or_false, false_or] at hm
  obtain ⟨rfl, -⟩ := hm
  match ex, hx with
  | 0, hx =>
    obtain rfl : (1 : Int32) = x := by injection hx
    exact ⟨by decide, [], ⟨0, 9, 12, 13⟩, [], 3, 1, rfl, by decide, (by decide), wd_mem (p := 800) (by decide +kernel), (fun w hw => by cases hw), by decide, rfl, _, Or.inr ⟨3, rfl, by decide +kernel, rfl⟩, by decide +kernel, by decide +kernel⟩
  | 1, hx => cases hx
  | 2, hx => cases hx
  | q + 3, hx => cases hx
def rwL_isTrue : List En := [(0, .aload_n 2, 1, 0), (1, .iconst 0, 1, 0), (2, .aload_n 0, 1, 0), (3, .iload_n 1, 1, 0), (4, .invokevirtual 75, 3, kX5_isTrue), (7, .ifCond .eq 7, 3, 14), (10, .lconst 1, 1, 0), (11, .goto 4, 3, 15), (14, .lconst 0, 1, 0), (15, .lastore, 1, 0), (16, .goto 6, 3, 22), (19, .astore_n 3, 1, 0), (20, .iconst 1, 1, 0), (21, .ireturn, 1, 0), (22, .iconst 0, 1, 0), (23, .ireturn, 1, 0)]
def hhL_isTrue : List (Nat × Nat × Nat × Nat) := [(0, 16, 19, 13)]
def cdL_isTrue : Nat → Option Int32
  | 0 => some 1
  | _ => none
theorem wkL_isTrue : WOK yL_isTrue cL_isTrue 4 hhL_isTrue rwL_isTrue cdL_isTrue := by
  refine ⟨by decide +kernel, rfl, List.mem_filter.mpr ⟨List.mem_of_getElem? (i := 993) (by decide +kernel), rfl⟩, ⟨[[], [], [], [], [994, 719, 720, 97], [], [], [], [], [], [], [], [], [], [], []], by decide +kernel⟩, by decide +kernel, ?_⟩
  intro pc index a hm ex x hx
  simp only [rwL_isTrue, List.mem_cons, List.not_mem_nil, or_false, Prod.mk.injEq, reduceCtorEq, false_and, and_false, or_false, false_or] at hm
  obtain ⟨rfl, -⟩ := hm
  match ex, hx with
  | 0, hx =>
    obtain rfl : (1 : Int32) = x := by injection hx
    exact ⟨by decide, [], ⟨0, 16, 19, 13⟩, [], 3, 1, rfl, by decide, (by decide), wd_mem (p := 800) (by decide +kernel), (fun w hw => by cases hw), by decide, rfl, _, Or.inr ⟨3, rfl, by decide +kernel, rfl⟩, by decide +kernel, by decide +kernel⟩
  | 1, hx => cases hx
  | 2, hx => cases hx
  | q + 3, hx => cases hx
def rwL_dealsWith : List En := [(0, .aload_n 3, 1, 0), (1, .iconst 0, 1, 0), (2, .aload_n 0, 1, 0), (3, .iload_n 1, 1, 0), (4, .iload_n 2, 1, 0), (5, .invokevirtual 79, 3, kX5_dealsWith), (8, .i2l, 1, 0), (9, .lastore, 1, 0), (10, .goto 7, 3, 17), (13, .astore 4, 2, 0), (15, .iconst 1, 1, 0), (16, .ireturn, 1, 0), (17, .iconst 0, 1, 0), (18, .ireturn, 1, 0)]
def hhL_dealsWith : List (Nat × Nat × Nat × Nat) := [(0, 10, 13, 13)]
def cdL_dealsWith : Nat → Option Int32
  | 0 => some 1
  | _ => none
theorem wkL_dealsWith : WOK yL_dealsWith cL_dealsWith 5 hhL_dealsWith rwL_dealsWith cdL_dealsWith := by
  refine ⟨by decide +kernel, rfl, List.mem_filter.mpr ⟨List.mem_of_getElem? (i := 997) (by decide +kernel), rfl⟩, ⟨[[], [], [], [], [], [998, 999, 1000, 97], [], [], [], [], [], [], [], []], by decide +kernel⟩, by decide +kernel, ?_⟩
  intro pc index a hm ex x hx
  simp only [rwL_dealsWith, List.mem_cons, List.not_mem_nil, or_false, Prod.mk.injEq, reduceCtorEq, false_and, and_false, or_false, false_or] at hm
  obtain ⟨rfl, -⟩ := hm
  match ex, hx with
  | 0, hx =>
    obtain rfl : (1 : Int32) = x := by injection hx
    exact ⟨by decide, [], ⟨0, 10, 13, 13⟩, [], 4, 1, rfl, by decide, (by decide), wd_mem (p := 800) (by decide +kernel), (fun w hw => by cases hw), by decide, rfl, _, Or.inl ⟨by decide +kernel, rfl⟩, by decide +kernel, by decide +kernel⟩
  | 1, hx => cases hx
  | 2, hx => cases hx
  | q + 3, hx => cases hx
def rwL_mayBe : List En := [(0, .aload_n 3, 1, 0), (1, .iconst 0, 1, 0), (2, .aload_n 0, 1, 0), (3, .iload_n 1, 1, 0), (4, .iload_n 2, 1, 0), (5, .invokevirtual 82, 3, kX5_mayBe), (8, .ifCond .eq 7, 3, 15), (11, .lconst 1, 1, 0), (12, .goto 4, 3, 16), (15, .lconst 0, 1, 0), (16, .lastore, 1, 0), (17, .goto 7, 3, 24), (20, .astore 4, 2, 0), (22, .iconst 1, 1, 0), (23, .ireturn, 1, 0), (24, .iconst 0, 1, 0), (25, .ireturn, 1, 0)]
def hhL_mayBe : List (Nat × Nat × Nat × Nat) := [(0, 17, 20, 13)]
def cdL_mayBe : Nat → Option Int32
  | 0 => some 1
  | _ => none
theorem wkL_mayBe : WOK yL_mayBe cL_mayBe 5 hhL_mayBe rwL_mayBe cdL_mayBe := by
  refine ⟨by decide +kernel, rfl, List.mem_filter.mpr ⟨List.mem_of_getElem? (i := 1008) (by decide +kernel), rfl⟩, ⟨[[], [], [], [], [], [1009, 1010, 1011, 97], [], [], [], [], [], [], [], [], [], [], []], by decide +kernel⟩, by decide +kernel, ?_⟩
  intro pc index a hm ex x hx
  simp only [rwL_mayBe, List.mem_cons, List.not_mem_nil, or_false, Prod.mk.injEq, reduceCtorEq, false_and, and_false, or_false, false_or] at hm
  obtain ⟨rfl, -⟩ := hm
  match ex, hx with
  | 0, hx =>
    obtain rfl : (1 : Int32) = x := by injection hx
    exact ⟨by decide, [], ⟨0, 17, 20, 13⟩, [], 4, 1, rfl, by decide, (by decide), wd_mem (p := 800) (by decide +kernel), (fun w hw => by cases hw), by decide, rfl, _, Or.inl ⟨by decide +kernel, rfl⟩, by decide +kernel, by decide +kernel⟩
  | 1, hx => cases hx
  | 2, hx => cases hx
  | q + 3, hx => cases hx
def rwL_certainPlace : List En := [(0, .aload_n 2, 1, 0), (1, .iconst 0, 1, 0), (2, .aload_n 0, 1, 0), (3, .iload_n 1, 1, 0), (4, .invokevirtual 86, 3, kX5_certainPlace), (7, .i2l, 1, 0), (8, .lastore, 1, 0), (9, .goto 6, 3, 15), (12, .astore_n 3, 1, 0), (13, .iconst 1, 1, 0), (14, .ireturn, 1, 0), (15, .iconst 0, 1, 0), (16, .ireturn, 1, 0)]
def hhL_certainPlace : List (Nat × Nat × Nat × Nat) := [(0, 9, 12, 13)]
def cdL_certainPlace : Nat → Option Int32
  | 0 => some 1
  | _ => none
theorem wkL_certainPlace : WOK yL_certainPlace cL_certainPlace 4 hhL_certainPlace rwL_certainPlace cdL_certainPlace := by
  refine ⟨by decide +kernel, rfl, List.mem_filter.mpr ⟨List.mem_of_getElem? (i := 1015) (by decide +kernel), rfl⟩, ⟨[[], [], [], [], [1016, 1017, 1018, 97], [], [], [], [], [], [], [], []], by decide +kernel⟩, by decide +kernel, ?_⟩
  intro pc index a hm ex x hx
  simp only [rwL_certainPlace, List.mem_cons, List.not_mem_nil, or_false, Prod.mk.injEq, reduceCtorEq, false_and, and_false, or_false, false_or] at hm
  obtain ⟨rfl, -⟩ := hm
  match ex, hx with
  | 0, hx =>
    obtain rfl : (1 : Int32) = x := by injection hx
    exact ⟨by decide, [], ⟨0, 9, 12, 13⟩, [], 3, 1, rfl, by decide, (by decide), wd_mem (p := 800) (by decide +kernel), (fun w hw => by cases hw), by decide, rfl, _, Or.inr ⟨3, rfl, by decide +kernel, rfl⟩, by decide +kernel, by decide +kernel⟩
  | 1, hx => cases hx
  | 2, hx => cases hx
  | q + 3, hx => cases hx
def rwL_mayBeByRules : List En := [(0, .aload_n 3, 1, 0), (1, .iconst 0, 1, 0), (2, .aload_n 0, 1, 0), (3, .iload_n 1, 1, 0), (4, .iload_n 2, 1, 0), (5, .invokevirtual 89, 3, kX5_mayBeByRules), (8, .ifCond .eq 7, 3, 15), (11, .lconst 1, 1, 0), (12, .goto 4, 3, 16), (15, .lconst 0, 1, 0), (16, .lastore, 1, 0), (17, .goto 7, 3, 24), (20, .astore 4, 2, 0), (22, .iconst 1, 1, 0), (23, .ireturn, 1, 0), (24, .iconst 0, 1, 0), (25, .ireturn, 1, 0)]
def hhL_mayBeByRules : List (Nat × Nat × Nat × Nat) := [(0, 17, 20, 13)]
def cdL_mayBeByRules : Nat → Option Int32
  | 0 => some 1
  | _ => none
theorem wkL_mayBeByRules : WOK yL_mayBeByRules cL_mayBeByRules 5 hhL_mayBeByRules rwL_mayBeByRules cdL_mayBeByRules := by
  refine ⟨by decide +kernel, rfl, List.mem_filter.mpr ⟨List.mem_of_getElem? (i := 1022) (by decide +kernel), rfl⟩, ⟨[[], [], [], [], [], [1023, 1024, 1025, 97], [], [], [], [], [], [], [], [], [], [], []], by decide +kernel⟩, by decide +kernel, ?_⟩
  intro pc index a hm ex x hx
  simp only [rwL_mayBeByRules, List.mem_cons, List.not_mem_nil, or_false, Prod.mk.injEq, reduceCtorEq, false_and, and_false, or_false, false_or] at hm
  obtain ⟨rfl, -⟩ := hm
  match ex, hx with
  | 0, hx =>
    obtain rfl : (1 : Int32) = x := by injection hx
    exact ⟨by decide, [], ⟨0, 17, 20, 13⟩, [], 4, 1, rfl, by decide, (by decide), wd_mem (p := 800) (by decide +kernel), (fun w hw => by cases hw), by decide, rfl, _, Or.inl ⟨by decide +kernel, rfl⟩, by decide +kernel, by decide +kernel⟩
  | 1, hx => cases hx
  | 2, hx => cases hx
  | q + 3, hx => cases hx
def rwL_placeByRules : List En := [(0, .aload_n 2, 1, 0), (1, .iconst 0, 1, 0), (2, .aload_n 0, 1, 0), (3, .iload_n 1, 1, 0), (4, .invokevirtual 92, 3, kX5_placeByRules), (7, .i2l, 1, 0), (8, .lastore, 1, 0), (9, .goto 6, 3, 15), (12, .astore_n 3, 1, 0), (13, .iconst 1, 1, 0), (14, .ireturn, 1, 0), (15, .iconst 0, 1, 0), (16, .ireturn, 1, 0)]
def hhL_placeByRules : List (Nat × Nat × Nat × Nat) := [(0, 9, 12, 13)]
def cdL_placeByRules : Nat → Option Int32
  | 0 => some 1
  | _ => none
theorem wkL_placeByRules : WOK yL_placeByRules cL_placeByRules 4 hhL_placeByRules rwL_placeByRules cdL_placeByRules := by
  refine ⟨by decide +kernel, rfl, List.mem_filter.mpr ⟨List.mem_of_getElem? (i := 1029) (by decide +kernel), rfl⟩, ⟨[[], [], [], [], [1030, 1031, 1032, 97], [], [], [], [], [], [], [], []], by decide +kernel⟩, by decide +kernel, ?_⟩
  intro pc index a hm ex x hx
  simp only [rwL_placeByRules, List.mem_cons, List.not_mem_nil, or_false, Prod.mk.injEq, reduceCtorEq, false_and, and_false, or_false, false_or] at hm
  obtain ⟨rfl, -⟩ := hm
  match ex, hx with
  | 0, hx =>
    obtain rfl : (1 : Int32) = x := by injection hx
    exact ⟨by decide, [], ⟨0, 9, 12, 13⟩, [], 3, 1, rfl, by decide, (by decide), wd_mem (p := 800) (by decide +kernel), (fun w hw => by cases hw), by decide, rfl, _, Or.inr ⟨3, rfl, by decide +kernel, rfl⟩, by decide +kernel, by decide +kernel⟩
  | 1, hx => cases hx
  | 2, hx => cases hx
  | q + 3, hx => cases hx
def rwL_envelopeDeals : List En := [(0, .aload_n 2, 1, 0), (1, .iconst 0, 1, 0), (2, .aload_n 0, 1, 0), (3, .iload_n 1, 1, 0), (4, .invokevirtual 95, 3, kX5_envelopeDeals), (7, .i2l, 1, 0), (8, .lastore, 1, 0), (9, .goto 6, 3, 15), (12, .astore_n 3, 1, 0), (13, .iconst 1, 1, 0), (14, .ireturn, 1, 0), (15, .iconst 0, 1, 0), (16, .ireturn, 1, 0)]
def hhL_envelopeDeals : List (Nat × Nat × Nat × Nat) := [(0, 9, 12, 13)]
def cdL_envelopeDeals : Nat → Option Int32
  | 0 => some 1
  | _ => none
theorem wkL_envelopeDeals : WOK yL_envelopeDeals cL_envelopeDeals 4 hhL_envelopeDeals rwL_envelopeDeals cdL_envelopeDeals := by
  refine ⟨by decide +kernel, rfl, List.mem_filter.mpr ⟨List.mem_of_getElem? (i := 1036) (by decide +kernel), rfl⟩, ⟨[[], [], [], [], [1037, 1038, 1039, 97], [], [], [], [], [], [], [], []], by decide +kernel⟩, by decide +kernel, ?_⟩
  intro pc index a hm ex x hx
  simp only [rwL_envelopeDeals, List.mem_cons, List.not_mem_nil, or_false, Prod.mk.injEq, reduceCtorEq, false_and, and_false, or_false, false_or] at hm
  obtain ⟨rfl, -⟩ := hm
  match ex, hx with
  | 0, hx =>
    obtain rfl : (1 : Int32) = x := by injection hx
    exact ⟨by decide, [], ⟨0, 9, 12, 13⟩, [], 3, 1, rfl, by decide, (by decide), wd_mem (p := 800) (by decide +kernel), (fun w hw => by cases hw), by decide, rfl, _, Or.inr ⟨3, rfl, by decide +kernel, rfl⟩, by decide +kernel, by decide +kernel⟩
  | 1, hx => cases hx
  | 2, hx => cases hx
  | q + 3, hx => cases hx
def rwL_bestAccusation : List En := [(0, .aload_n 1, 1, 0), (1, .iconst 0, 1, 0), (2, .aload_n 0, 1, 0), (3, .invokevirtual 98, 3, kX5_bestAccusation), (6, .i2l, 1, 0), (7, .lastore, 1, 0), (8, .goto 6, 3, 14), (11, .astore_n 2, 1, 0), (12, .iconst 1, 1, 0), (13, .ireturn, 1, 0), (14, .iconst 0, 1, 0), (15, .ireturn, 1, 0)]
def hhL_bestAccusation : List (Nat × Nat × Nat × Nat) := [(0, 8, 11, 15)]
def cdL_bestAccusation : Nat → Option Int32
  | 1 => some 1
  | _ => none
theorem wkL_bestAccusation : WOK yL_bestAccusation cL_bestAccusation 3 hhL_bestAccusation rwL_bestAccusation cdL_bestAccusation := by
  refine ⟨by decide +kernel, rfl, List.mem_filter.mpr ⟨List.mem_of_getElem? (i := 1047) (by decide +kernel), rfl⟩, ⟨[[], [], [], [1048, 1049, 1050, 97], [], [], [], [], [], [], [], []], by decide +kernel⟩, by decide +kernel, ?_⟩
  intro pc index a hm ex x hx
  simp only [rwL_bestAccusation, List.mem_cons, List.not_mem_nil, or_false, Prod.mk.injEq, reduceCtorEq, false_and, and_false, or_false, false_or] at hm
  obtain ⟨rfl, -⟩ := hm
  match ex, hx with
  | 1, hx =>
    obtain rfl : (1 : Int32) = x := by injection hx
    exact ⟨by decide, [], ⟨0, 8, 11, 15⟩, [], 2, 1, rfl, by decide, (by decide), wd_mem (p := 801) (by decide +kernel), (fun w hw => by cases hw), by decide, rfl, _, Or.inr ⟨2, rfl, by decide +kernel, rfl⟩, by decide +kernel, by decide +kernel⟩
  | 0, hx => cases hx
  | 2, hx => cases hx
  | q + 3, hx => cases hx
def rwL_dealsIfPassed : List En := [(0, .aload_n 3, 1, 0), (1, .iconst 0, 1, 0), (2, .aload_n 0, 1, 0), (3, .iload_n 1, 1, 0), (4, .iload_n 2, 1, 0), (5, .invokevirtual 101, 3, kX5_dealsIfPassed), (8, .i2l, 1, 0), (9, .lastore, 1, 0), (10, .goto 7, 3, 17), (13, .astore 4, 2, 0), (15, .iconst 1, 1, 0), (16, .ireturn, 1, 0), (17, .iconst 0, 1, 0), (18, .ireturn, 1, 0)]
def hhL_dealsIfPassed : List (Nat × Nat × Nat × Nat) := [(0, 10, 13, 13)]
def cdL_dealsIfPassed : Nat → Option Int32
  | 0 => some 1
  | _ => none
theorem wkL_dealsIfPassed : WOK yL_dealsIfPassed cL_dealsIfPassed 5 hhL_dealsIfPassed rwL_dealsIfPassed cdL_dealsIfPassed := by
  refine ⟨by decide +kernel, rfl, List.mem_filter.mpr ⟨List.mem_of_getElem? (i := 1058) (by decide +kernel), rfl⟩, ⟨[[], [], [], [], [], [1059, 1060, 1061, 97], [], [], [], [], [], [], [], []], by decide +kernel⟩, by decide +kernel, ?_⟩
  intro pc index a hm ex x hx
  simp only [rwL_dealsIfPassed, List.mem_cons, List.not_mem_nil, or_false, Prod.mk.injEq, reduceCtorEq, false_and, and_false, or_false, false_or] at hm
  obtain ⟨rfl, -⟩ := hm
  match ex, hx with
  | 0, hx =>
    obtain rfl : (1 : Int32) = x := by injection hx
    exact ⟨by decide, [], ⟨0, 10, 13, 13⟩, [], 4, 1, rfl, by decide, (by decide), wd_mem (p := 800) (by decide +kernel), (fun w hw => by cases hw), by decide, rfl, _, Or.inl ⟨by decide +kernel, rfl⟩, by decide +kernel, by decide +kernel⟩
  | 1, hx => cases hx
  | 2, hx => cases hx
  | q + 3, hx => cases hx
def rwL_leftBy : List En := [(0, .aload_n 3, 1, 0), (1, .iconst 0, 1, 0), (2, .aload_n 0, 1, 0), (3, .iload_n 1, 1, 0), (4, .iload_n 2, 1, 0), (5, .invokevirtual 104, 3, kX5_leftBy), (8, .i2l, 1, 0), (9, .lastore, 1, 0), (10, .goto 7, 3, 17), (13, .astore 4, 2, 0), (15, .iconst 1, 1, 0), (16, .ireturn, 1, 0), (17, .iconst 0, 1, 0), (18, .ireturn, 1, 0)]
def hhL_leftBy : List (Nat × Nat × Nat × Nat) := [(0, 10, 13, 13)]
def cdL_leftBy : Nat → Option Int32
  | 0 => some 1
  | _ => none
theorem wkL_leftBy : WOK yL_leftBy cL_leftBy 5 hhL_leftBy rwL_leftBy cdL_leftBy := by
  refine ⟨by decide +kernel, rfl, List.mem_filter.mpr ⟨List.mem_of_getElem? (i := 1066) (by decide +kernel), rfl⟩, ⟨[[], [], [], [], [], [1067, 1068, 1069, 97], [], [], [], [], [], [], [], []], by decide +kernel⟩, by decide +kernel, ?_⟩
  intro pc index a hm ex x hx
  simp only [rwL_leftBy, List.mem_cons, List.not_mem_nil, or_false, Prod.mk.injEq, reduceCtorEq, false_and, and_false, or_false, false_or] at hm
  obtain ⟨rfl, -⟩ := hm
  match ex, hx with
  | 0, hx =>
    obtain rfl : (1 : Int32) = x := by injection hx
    exact ⟨by decide, [], ⟨0, 10, 13, 13⟩, [], 4, 1, rfl, by decide, (by decide), wd_mem (p := 800) (by decide +kernel), (fun w hw => by cases hw), by decide, rfl, _, Or.inl ⟨by decide +kernel, rfl⟩, by decide +kernel, by decide +kernel⟩
  | 1, hx => cases hx
  | 2, hx => cases hx
  | q + 3, hx => cases hx
def rwL_bestQuestion : List En := [(0, .aload_n 2, 1, 0), (1, .iconst 0, 1, 0), (2, .aload_n 0, 1, 0), (3, .iload_n 1, 1, 0), (4, .invokevirtual 107, 3, kX5_bestQuestion), (7, .i2l, 1, 0), (8, .lastore, 1, 0), (9, .goto 9, 3, 18), (12, .astore_n 3, 1, 0), (13, .iconst 1, 1, 0), (14, .ireturn, 1, 0), (15, .astore_n 3, 1, 0), (16, .iconst 2, 1, 0), (17, .ireturn, 1, 0), (18, .iconst 0, 1, 0), (19, .ireturn, 1, 0)]
def hhL_bestQuestion : List (Nat × Nat × Nat × Nat) := [(0, 9, 12, 13), (0, 9, 15, 15)]
def cdL_bestQuestion : Nat → Option Int32
  | 0 => some 1
  | 1 => some 2
  | _ => none
theorem wkL_bestQuestion : WOK yL_bestQuestion cL_bestQuestion 4 hhL_bestQuestion rwL_bestQuestion cdL_bestQuestion := by
  refine ⟨by decide +kernel, rfl, List.mem_filter.mpr ⟨List.mem_of_getElem? (i := 1073) (by decide +kernel), rfl⟩, ⟨[[], [], [], [], [1074, 1075, 1076, 97], [], [], [], [], [], [], [], [], [], [], []], by decide +kernel⟩, by decide +kernel, ?_⟩
  intro pc index a hm ex x hx
  simp only [rwL_bestQuestion, List.mem_cons, List.not_mem_nil, or_false, Prod.mk.injEq, reduceCtorEq, false_and, and_false, or_false, false_or] at hm
  obtain ⟨rfl, -⟩ := hm
  match ex, hx with
  | 0, hx =>
    obtain rfl : (1 : Int32) = x := by injection hx
    exact ⟨by decide, [], ⟨0, 9, 12, 13⟩, [⟨0, 9, 15, 15⟩], 3, 1, rfl, by decide, (by decide), wd_mem (p := 800) (by decide +kernel), (fun w hw => by cases hw), by decide, rfl, _, Or.inr ⟨3, rfl, by decide +kernel, rfl⟩, by decide +kernel, by decide +kernel⟩
  | 1, hx =>
    obtain rfl : (2 : Int32) = x := by injection hx
    exact ⟨by decide, [⟨0, 9, 12, 13⟩], ⟨0, 9, 15, 15⟩, [], 3, 2, rfl, by decide, (by decide), wd_mem (p := 801) (by decide +kernel), (fun w hw => by
      obtain rfl := List.mem_singleton.mp hw
      exact ⟨(by decide), 0, wd_mem (p := 800) (by decide +kernel), rfl, Or.inl rfl⟩), by decide, rfl, _, Or.inr ⟨3, rfl, by decide +kernel, rfl⟩, by decide +kernel, by decide +kernel⟩
  | 2, hx => cases hx
  | q + 3, hx => cases hx
def rwL_dealsWithout : List En := [(0, .aload_n 2, 1, 0), (1, .iconst 0, 1, 0), (2, .aload_n 0, 1, 0), (3, .iload_n 1, 1, 0), (4, .invokevirtual 110, 3, kX5_dealsWithout), (7, .i2l, 1, 0), (8, .lastore, 1, 0), (9, .goto 6, 3, 15), (12, .astore_n 3, 1, 0), (13, .iconst 1, 1, 0), (14, .ireturn, 1, 0), (15, .iconst 0, 1, 0), (16, .ireturn, 1, 0)]
def hhL_dealsWithout : List (Nat × Nat × Nat × Nat) := [(0, 9, 12, 13)]
def cdL_dealsWithout : Nat → Option Int32
  | 0 => some 1
  | _ => none
theorem wkL_dealsWithout : WOK yL_dealsWithout cL_dealsWithout 4 hhL_dealsWithout rwL_dealsWithout cdL_dealsWithout := by
  refine ⟨by decide +kernel, rfl, List.mem_filter.mpr ⟨List.mem_of_getElem? (i := 1080) (by decide +kernel), rfl⟩, ⟨[[], [], [], [], [1081, 1082, 1083, 97], [], [], [], [], [], [], [], []], by decide +kernel⟩, by decide +kernel, ?_⟩
  intro pc index a hm ex x hx
  simp only [rwL_dealsWithout, List.mem_cons, List.not_mem_nil, or_false, Prod.mk.injEq, reduceCtorEq, false_and, and_false, or_false, false_or] at hm
  obtain ⟨rfl, -⟩ := hm
  match ex, hx with
  | 0, hx =>
    obtain rfl : (1 : Int32) = x := by injection hx
    exact ⟨by decide, [], ⟨0, 9, 12, 13⟩, [], 3, 1, rfl, by decide, (by decide), wd_mem (p := 800) (by decide +kernel), (fun w hw => by cases hw), by decide, rfl, _, Or.inr ⟨3, rfl, by decide +kernel, rfl⟩, by decide +kernel, by decide +kernel⟩
  | 1, hx => cases hx
  | 2, hx => cases hx
  | q + 3, hx => cases hx
