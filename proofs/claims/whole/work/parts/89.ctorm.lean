/-! the reference's constructor -/
/-- the reference's state at first: no stop, each card where it is dealt -/
def sI0 : Nat → IA
  | 0 => upd (fun _ => 0) 1 (cst (-1))
  | c + 1 => upd (sI0 c) (3 + c) (if c % 3 = 0 then nI 3 else nI (c / 3))
def mN_X6 : Mem := [eO 6 [.int 0, .ref 1, .ref 2, .int 0, .ref 3, .int 0, .ref 4, .int 0, .int 0, .int 0, .ref 5, .int 0, .ref 6, .int 0, .ref 7, .ref 8, .ref 9, .ref 10, .int 0], eI 72 (sI0 9), eI 360 (fun _ => 0), eI 72 (fun _ => 0), eI 60 (fun _ => 0), eI 93 (fun _ => 0), eI 4 (fun _ => 0), eI 36 (fun _ => 0), eI 27 (fun _ => 0), eI 81 (fun _ => 0), eI 9 (fun _ => 0)]
theorem rem3_all : (List.range 9).all (fun k => decide (nI k - nI k / nI 3 * nI 3 = nI (k % 3)) && decide (nI k / nI 3 = nI (k / 3))) = true := by decide +kernel
theorem rem3 {k : Nat} (h : k < 9) : nI k - nI k / nI 3 * nI 3 = nI (k % 3) := by
  have z := List.all_eq_true.mp rem3_all k (List.mem_range.mpr h)
  rw [Bool.and_eq_true] at z
  exact of_decide_eq_true z.1
theorem div3 {k : Nat} (h : k < 9) : nI k / nI 3 = nI (k / 3) := by
  have z := List.all_eq_true.mp rem3_all k (List.mem_range.mpr h)
  rw [Bool.and_eq_true] at z
  exact of_decide_eq_true z.2
set_option maxHeartbeats 4000000 in
theorem n_X6 {l : Launch} {D : va_G} {cI cL cS : ClassId} (h0 sz : Nat) : Met l yX6_init (Cond.code yX6_init cX6_init 2 none :: TT) { frames := 1, cells := 10, slots := 814, locals := 12 } (PreN D cI cL cS 6 [.int 0, .null, .null, .int 0, .null, .int 0, .null, .int 0, .int 0, .int 0, .null, .int 0, .null, .int 0, .null, .null, .null, .null, .int 0] h0 sz) (PostN D cI cL cS mN_X6 6 [.int 0, .null, .null, .int 0, .null, .int 0, .null, .int 0, .int 0, .int 0, .null, .int 0, .null, .int 0, .null, .null, .null, .null, .int 0] h0 sz) 10 814 (va_A [(h0, .inr (6, [.int 0, .null, .null, .int 0, .null, .int 0, .null, .int 0, .int 0, .int 0, .null, .int 0, .null, .int 0, .null, .null, .null, .null, .int 0]))] sz) := by
  refine Met.ofW (cc := cX6_init) (maxL := 2) (ret := none) (by decide) rfl ?_
  intro p e s m args below meth c s₁ B hml hv
  obtain ⟨rfl, hsz, hP, hK⟩ := hv
  have hx := B.exec
  have hb := B.bytes
  have hr := B.returns
  have hts0 := atoms_spec (ws := Cond.code yX6_init cX6_init 2 none :: TT) B.pre
  have hts : ∀ w ∈ TT, w.before _ s = true := fun w z => hts0 w (List.mem_cons_of_mem _ z)
  have hown : s.vm.findClass RX6 = some m.cls := findClass_of_methodNamed B.named
  have hlocks := B.notSynchronized
  have hin : meth.name = "<init>" := (name_of_methodNamed B.named B.method).1
  subst hsz
  have hD : va_D (va_A [(h0, .inr (6, [.int 0, .null, .null, .int 0, .null, .int 0, .null, .int 0, .int 0, .int 0, .null, .int 0, .null, .int 0, .null, .null, .null, .null, .int 0]))] s.heap.size) [(h0, .inr (6, [.int 0, .null, .null, .int 0, .null, .int 0, .null, .int 0, .int 0, .int 0, .null, .int 0, .null, .int 0, .null, .null, .null, .null, .int 0]))] := va_D_1 (Or.inl ⟨0, _, rfl⟩)
  generalize hAe : va_A [(h0, .inr (6, [.int 0, .null, .null, .int 0, .null, .int 0, .null, .int 0, .int 0, .int 0, .null, .int 0, .null, .int 0, .null, .null, .null, .null, .int 0]))] s.heap.size = A at hD ⊢
  have hA : ∀ q : Nat, s.heap.size ≤ q → A q := fun q h => by rw [← hAe]; exact Or.inr h
  have hS : va_S A s.heap s.heap [] := va_S.rf
  have hl := lv_entry ([.ref h0]) (n := 2) (Nat.le_of_ble_eq_true rfl)
  rw [lg_entry_eq]
  generalize (lg_sl ([.ref h0]) ++ List.replicate (2 - (lg_sl ([.ref h0])).length) Slot.unset).toArray = ls at hl ⊢
  have hl : lv_has ls 2 [(0, .ref h0)] := hl
  refine lv_aload_n hx hb dX6_init_0 rfl (lv_at hl 0 rfl) ?_
  refine W.objInit hx hb hown (hts (.methodLink RX6 1 objectInit) (wd_mem (p := 1090) (by decide +kernel))) (hts _ w_oI) (hts _ w_oC) rfl (by rw [hml]; exact hl.1) rfl dX6_init_1 (Nat.le_of_ble_eq_true rfl) (Nat.le_of_ble_eq_true rfl) ?_
  refine W.eq (g2 := F0 m 4 ls []) rfl ?_
  refine lv_aload_n hx hb dX6_init_4 rfl (lv_at hl 0 rfl) ?_
  refine lv_bipush (v := nI 72) hx hb dX6_init_5 (by decide) ?_
  refine al_newi (n := 72) hx hb (hts _ w_aI) hK hP hD hS hA (by decide) (Nat.le_of_ble_eq_true rfl) (Nat.le_of_ble_eq_true rfl) dX6_init_7 (fun q1 H hP hD hS => ?_)
  refine va_putF (D := D) (ci := 6) (C := RX6) (T := TX6) (N := 19) (ty := tyX6 1) hx hb hts (cls_w _ (List.mem_of_getElem? (i := 6) rfl)) tyX6 tyX6_ok nmX6 hown hK hP hD hS 0 rfl rfl 1 (by decide) (hts (.fieldLink RX6 7 "AlibiDealsModel" "s" "[I") (wd_mem (p := 1092) (by decide +kernel))) (fun _ h9 => h9) rfl hin rfl (by decide +kernel) rfl rfl (Nat.le_of_ble_eq_true rfl) dX6_init_9 (fun H locs hP hD hS => ?_)
  have hP : va_P D vwCl [(h0, .inr (6, [.int 0, .ref q1, .null, .int 0, .null, .int 0, .null, .int 0, .int 0, .int 0, .null, .int 0, .null, .int 0, .null, .null, .null, .null, .int 0])), (q1, .inl (cI, 72, .inl (fun _ => 0)))] H := hP
  have hD : va_D A [(h0, .inr (6, [.int 0, .ref q1, .null, .int 0, .null, .int 0, .null, .int 0, .int 0, .int 0, .null, .int 0, .null, .int 0, .null, .null, .null, .null, .int 0])), (q1, .inl (cI, 72, .inl (fun _ => 0)))] := hD
  refine lv_aload_n hx hb dX6_init_12 rfl (lv_at hl 0 rfl) ?_
  refine lv_sipush (v := nI 360) hx hb dX6_init_13 (by decide) ?_
  refine al_newi (n := 360) hx hb (hts _ w_aI) hK hP hD hS hA (by decide) (Nat.le_of_ble_eq_true rfl) (Nat.le_of_ble_eq_true rfl) dX6_init_16 (fun q2 H hP hD hS => ?_)
  refine va_putF (D := D) (ci := 6) (C := RX6) (T := TX6) (N := 19) (ty := tyX6 2) hx hb hts (cls_w _ (List.mem_of_getElem? (i := 6) rfl)) tyX6 tyX6_ok nmX6 hown hK hP hD hS 0 rfl rfl 2 (by decide) (hts (.fieldLink RX6 13 "AlibiDealsModel" "states" "[I") (wd_mem (p := 1093) (by decide +kernel))) (fun _ h9 => h9) rfl hin rfl (by decide +kernel) rfl rfl (Nat.le_of_ble_eq_true rfl) dX6_init_18 (fun H locs hP hD hS => ?_)
  have hP : va_P D vwCl [(h0, .inr (6, [.int 0, .ref q1, .ref q2, .int 0, .null, .int 0, .null, .int 0, .int 0, .int 0, .null, .int 0, .null, .int 0, .null, .null, .null, .null, .int 0])), (q1, .inl (cI, 72, .inl (fun _ => 0))), (q2, .inl (cI, 360, .inl (fun _ => 0)))] H := hP
  have hD : va_D A [(h0, .inr (6, [.int 0, .ref q1, .ref q2, .int 0, .null, .int 0, .null, .int 0, .int 0, .int 0, .null, .int 0, .null, .int 0, .null, .null, .null, .null, .int 0])), (q1, .inl (cI, 72, .inl (fun _ => 0))), (q2, .inl (cI, 360, .inl (fun _ => 0)))] := hD
  refine lv_aload_n hx hb dX6_init_21 rfl (lv_at hl 0 rfl) ?_
  refine lv_bipush (v := nI 72) hx hb dX6_init_22 (by decide) ?_
  refine al_newi (n := 72) hx hb (hts _ w_aI) hK hP hD hS hA (by decide) (Nat.le_of_ble_eq_true rfl) (Nat.le_of_ble_eq_true rfl) dX6_init_24 (fun q3 H hP hD hS => ?_)
  refine va_putF (D := D) (ci := 6) (C := RX6) (T := TX6) (N := 19) (ty := tyX6 4) hx hb hts (cls_w _ (List.mem_of_getElem? (i := 6) rfl)) tyX6 tyX6_ok nmX6 hown hK hP hD hS 0 rfl rfl 4 (by decide) (hts (.fieldLink RX6 16 "AlibiDealsModel" "snapshot" "[I") (wd_mem (p := 1095) (by decide +kernel))) (fun _ h9 => h9) rfl hin rfl (by decide +kernel) rfl rfl (Nat.le_of_ble_eq_true rfl) dX6_init_26 (fun H locs hP hD hS => ?_)
  have hP : va_P D vwCl [(h0, .inr (6, [.int 0, .ref q1, .ref q2, .int 0, .ref q3, .int 0, .null, .int 0, .int 0, .int 0, .null, .int 0, .null, .int 0, .null, .null, .null, .null, .int 0])), (q1, .inl (cI, 72, .inl (fun _ => 0))), (q2, .inl (cI, 360, .inl (fun _ => 0))), (q3, .inl (cI, 72, .inl (fun _ => 0)))] H := hP
  have hD : va_D A [(h0, .inr (6, [.int 0, .ref q1, .ref q2, .int 0, .ref q3, .int 0, .null, .int 0, .int 0, .int 0, .null, .int 0, .null, .int 0, .null, .null, .null, .null, .int 0])), (q1, .inl (cI, 72, .inl (fun _ => 0))), (q2, .inl (cI, 360, .inl (fun _ => 0))), (q3, .inl (cI, 72, .inl (fun _ => 0)))] := hD
  refine lv_aload_n hx hb dX6_init_29 rfl (lv_at hl 0 rfl) ?_
  refine lv_bipush (v := nI 60) hx hb dX6_init_30 (by decide) ?_
  refine al_newi (n := 60) hx hb (hts _ w_aI) hK hP hD hS hA (by decide) (Nat.le_of_ble_eq_true rfl) (Nat.le_of_ble_eq_true rfl) dX6_init_32 (fun q4 H hP hD hS => ?_)
  refine va_putF (D := D) (ci := 6) (C := RX6) (T := TX6) (N := 19) (ty := tyX6 6) hx hb hts (cls_w _ (List.mem_of_getElem? (i := 6) rfl)) tyX6 tyX6_ok nmX6 hown hK hP hD hS 0 rfl rfl 6 (by decide) (hts (.fieldLink RX6 19 "AlibiDealsModel" "text" "[I") (wd_mem (p := 1097) (by decide +kernel))) (fun _ h9 => h9) rfl hin rfl (by decide +kernel) rfl rfl (Nat.le_of_ble_eq_true rfl) dX6_init_34 (fun H locs hP hD hS => ?_)
  have hP : va_P D vwCl [(h0, .inr (6, [.int 0, .ref q1, .ref q2, .int 0, .ref q3, .int 0, .ref q4, .int 0, .int 0, .int 0, .null, .int 0, .null, .int 0, .null, .null, .null, .null, .int 0])), (q1, .inl (cI, 72, .inl (fun _ => 0))), (q2, .inl (cI, 360, .inl (fun _ => 0))), (q3, .inl (cI, 72, .inl (fun _ => 0))), (q4, .inl (cI, 60, .inl (fun _ => 0)))] H := hP
  have hD : va_D A [(h0, .inr (6, [.int 0, .ref q1, .ref q2, .int 0, .ref q3, .int 0, .ref q4, .int 0, .int 0, .int 0, .null, .int 0, .null, .int 0, .null, .null, .null, .null, .int 0])), (q1, .inl (cI, 72, .inl (fun _ => 0))), (q2, .inl (cI, 360, .inl (fun _ => 0))), (q3, .inl (cI, 72, .inl (fun _ => 0))), (q4, .inl (cI, 60, .inl (fun _ => 0)))] := hD
  refine lv_aload_n hx hb dX6_init_37 rfl (lv_at hl 0 rfl) ?_
  refine lv_bipush (v := nI 93) hx hb dX6_init_38 (by decide) ?_
  refine al_newi (n := 93) hx hb (hts _ w_aI) hK hP hD hS hA (by decide) (Nat.le_of_ble_eq_true rfl) (Nat.le_of_ble_eq_true rfl) dX6_init_40 (fun q5 H hP hD hS => ?_)
  refine va_putF (D := D) (ci := 6) (C := RX6) (T := TX6) (N := 19) (ty := tyX6 10) hx hb hts (cls_w _ (List.mem_of_getElem? (i := 6) rfl)) tyX6 tyX6_ok nmX6 hown hK hP hD hS 0 rfl rfl 10 (by decide) (hts (.fieldLink RX6 22 "AlibiDealsModel" "read" "[I") (wd_mem (p := 1101) (by decide +kernel))) (fun _ h9 => h9) rfl hin rfl (by decide +kernel) rfl rfl (Nat.le_of_ble_eq_true rfl) dX6_init_42 (fun H locs hP hD hS => ?_)
  have hP : va_P D vwCl [(h0, .inr (6, [.int 0, .ref q1, .ref q2, .int 0, .ref q3, .int 0, .ref q4, .int 0, .int 0, .int 0, .ref q5, .int 0, .null, .int 0, .null, .null, .null, .null, .int 0])), (q1, .inl (cI, 72, .inl (fun _ => 0))), (q2, .inl (cI, 360, .inl (fun _ => 0))), (q3, .inl (cI, 72, .inl (fun _ => 0))), (q4, .inl (cI, 60, .inl (fun _ => 0))), (q5, .inl (cI, 93, .inl (fun _ => 0)))] H := hP
  have hD : va_D A [(h0, .inr (6, [.int 0, .ref q1, .ref q2, .int 0, .ref q3, .int 0, .ref q4, .int 0, .int 0, .int 0, .ref q5, .int 0, .null, .int 0, .null, .null, .null, .null, .int 0])), (q1, .inl (cI, 72, .inl (fun _ => 0))), (q2, .inl (cI, 360, .inl (fun _ => 0))), (q3, .inl (cI, 72, .inl (fun _ => 0))), (q4, .inl (cI, 60, .inl (fun _ => 0))), (q5, .inl (cI, 93, .inl (fun _ => 0)))] := hD
  refine lv_aload_n hx hb dX6_init_45 rfl (lv_at hl 0 rfl) ?_
  refine lv_iconst (v := nI 4) hx hb dX6_init_46 (by decide) ?_
  refine al_newi (n := 4) hx hb (hts _ w_aI) hK hP hD hS hA (by decide) (Nat.le_of_ble_eq_true rfl) (Nat.le_of_ble_eq_true rfl) dX6_init_47 (fun q6 H hP hD hS => ?_)
  refine va_putF (D := D) (ci := 6) (C := RX6) (T := TX6) (N := 19) (ty := tyX6 12) hx hb hts (cls_w _ (List.mem_of_getElem? (i := 6) rfl)) tyX6 tyX6_ok nmX6 hown hK hP hD hS 0 rfl rfl 12 (by decide) (hts (.fieldLink RX6 25 "AlibiDealsModel" "hand" "[I") (wd_mem (p := 1103) (by decide +kernel))) (fun _ h9 => h9) rfl hin rfl (by decide +kernel) rfl rfl (Nat.le_of_ble_eq_true rfl) dX6_init_49 (fun H locs hP hD hS => ?_)
  have hP : va_P D vwCl [(h0, .inr (6, [.int 0, .ref q1, .ref q2, .int 0, .ref q3, .int 0, .ref q4, .int 0, .int 0, .int 0, .ref q5, .int 0, .ref q6, .int 0, .null, .null, .null, .null, .int 0])), (q1, .inl (cI, 72, .inl (fun _ => 0))), (q2, .inl (cI, 360, .inl (fun _ => 0))), (q3, .inl (cI, 72, .inl (fun _ => 0))), (q4, .inl (cI, 60, .inl (fun _ => 0))), (q5, .inl (cI, 93, .inl (fun _ => 0))), (q6, .inl (cI, 4, .inl (fun _ => 0)))] H := hP
  have hD : va_D A [(h0, .inr (6, [.int 0, .ref q1, .ref q2, .int 0, .ref q3, .int 0, .ref q4, .int 0, .int 0, .int 0, .ref q5, .int 0, .ref q6, .int 0, .null, .null, .null, .null, .int 0])), (q1, .inl (cI, 72, .inl (fun _ => 0))), (q2, .inl (cI, 360, .inl (fun _ => 0))), (q3, .inl (cI, 72, .inl (fun _ => 0))), (q4, .inl (cI, 60, .inl (fun _ => 0))), (q5, .inl (cI, 93, .inl (fun _ => 0))), (q6, .inl (cI, 4, .inl (fun _ => 0)))] := hD
  refine lv_aload_n hx hb dX6_init_52 rfl (lv_at hl 0 rfl) ?_
  refine lv_bipush (v := nI 36) hx hb dX6_init_53 (by decide) ?_
  refine al_newi (n := 36) hx hb (hts _ w_aI) hK hP hD hS hA (by decide) (Nat.le_of_ble_eq_true rfl) (Nat.le_of_ble_eq_true rfl) dX6_init_55 (fun q7 H hP hD hS => ?_)
  refine va_putF (D := D) (ci := 6) (C := RX6) (T := TX6) (N := 19) (ty := tyX6 14) hx hb hts (cls_w _ (List.mem_of_getElem? (i := 6) rfl)) tyX6 tyX6_ok nmX6 hown hK hP hD hS 0 rfl rfl 14 (by decide) (hts (.fieldLink RX6 28 "AlibiDealsModel" "leftWith" "[I") (wd_mem (p := 1105) (by decide +kernel))) (fun _ h9 => h9) rfl hin rfl (by decide +kernel) rfl rfl (Nat.le_of_ble_eq_true rfl) dX6_init_57 (fun H locs hP hD hS => ?_)
  have hP : va_P D vwCl [(h0, .inr (6, [.int 0, .ref q1, .ref q2, .int 0, .ref q3, .int 0, .ref q4, .int 0, .int 0, .int 0, .ref q5, .int 0, .ref q6, .int 0, .ref q7, .null, .null, .null, .int 0])), (q1, .inl (cI, 72, .inl (fun _ => 0))), (q2, .inl (cI, 360, .inl (fun _ => 0))), (q3, .inl (cI, 72, .inl (fun _ => 0))), (q4, .inl (cI, 60, .inl (fun _ => 0))), (q5, .inl (cI, 93, .inl (fun _ => 0))), (q6, .inl (cI, 4, .inl (fun _ => 0))), (q7, .inl (cI, 36, .inl (fun _ => 0)))] H := hP
  have hD : va_D A [(h0, .inr (6, [.int 0, .ref q1, .ref q2, .int 0, .ref q3, .int 0, .ref q4, .int 0, .int 0, .int 0, .ref q5, .int 0, .ref q6, .int 0, .ref q7, .null, .null, .null, .int 0])), (q1, .inl (cI, 72, .inl (fun _ => 0))), (q2, .inl (cI, 360, .inl (fun _ => 0))), (q3, .inl (cI, 72, .inl (fun _ => 0))), (q4, .inl (cI, 60, .inl (fun _ => 0))), (q5, .inl (cI, 93, .inl (fun _ => 0))), (q6, .inl (cI, 4, .inl (fun _ => 0))), (q7, .inl (cI, 36, .inl (fun _ => 0)))] := hD
  refine lv_aload_n hx hb dX6_init_60 rfl (lv_at hl 0 rfl) ?_
  refine lv_bipush (v := nI 27) hx hb dX6_init_61 (by decide) ?_
  refine al_newi (n := 27) hx hb (hts _ w_aI) hK hP hD hS hA (by decide) (Nat.le_of_ble_eq_true rfl) (Nat.le_of_ble_eq_true rfl) dX6_init_63 (fun q8 H hP hD hS => ?_)
  refine va_putF (D := D) (ci := 6) (C := RX6) (T := TX6) (N := 19) (ty := tyX6 15) hx hb hts (cls_w _ (List.mem_of_getElem? (i := 6) rfl)) tyX6 tyX6_ok nmX6 hown hK hP hD hS 0 rfl rfl 15 (by decide) (hts (.fieldLink RX6 31 "AlibiDealsModel" "leftIn" "[I") (wd_mem (p := 1106) (by decide +kernel))) (fun _ h9 => h9) rfl hin rfl (by decide +kernel) rfl rfl (Nat.le_of_ble_eq_true rfl) dX6_init_65 (fun H locs hP hD hS => ?_)
  have hP : va_P D vwCl [(h0, .inr (6, [.int 0, .ref q1, .ref q2, .int 0, .ref q3, .int 0, .ref q4, .int 0, .int 0, .int 0, .ref q5, .int 0, .ref q6, .int 0, .ref q7, .ref q8, .null, .null, .int 0])), (q1, .inl (cI, 72, .inl (fun _ => 0))), (q2, .inl (cI, 360, .inl (fun _ => 0))), (q3, .inl (cI, 72, .inl (fun _ => 0))), (q4, .inl (cI, 60, .inl (fun _ => 0))), (q5, .inl (cI, 93, .inl (fun _ => 0))), (q6, .inl (cI, 4, .inl (fun _ => 0))), (q7, .inl (cI, 36, .inl (fun _ => 0))), (q8, .inl (cI, 27, .inl (fun _ => 0)))] H := hP
  have hD : va_D A [(h0, .inr (6, [.int 0, .ref q1, .ref q2, .int 0, .ref q3, .int 0, .ref q4, .int 0, .int 0, .int 0, .ref q5, .int 0, .ref q6, .int 0, .ref q7, .ref q8, .null, .null, .int 0])), (q1, .inl (cI, 72, .inl (fun _ => 0))), (q2, .inl (cI, 360, .inl (fun _ => 0))), (q3, .inl (cI, 72, .inl (fun _ => 0))), (q4, .inl (cI, 60, .inl (fun _ => 0))), (q5, .inl (cI, 93, .inl (fun _ => 0))), (q6, .inl (cI, 4, .inl (fun _ => 0))), (q7, .inl (cI, 36, .inl (fun _ => 0))), (q8, .inl (cI, 27, .inl (fun _ => 0)))] := hD
  refine lv_aload_n hx hb dX6_init_68 rfl (lv_at hl 0 rfl) ?_
  refine lv_bipush (v := nI 81) hx hb dX6_init_69 (by decide) ?_
  refine al_newi (n := 81) hx hb (hts _ w_aI) hK hP hD hS hA (by decide) (Nat.le_of_ble_eq_true rfl) (Nat.le_of_ble_eq_true rfl) dX6_init_71 (fun q9 H hP hD hS => ?_)
  refine va_putF (D := D) (ci := 6) (C := RX6) (T := TX6) (N := 19) (ty := tyX6 16) hx hb hts (cls_w _ (List.mem_of_getElem? (i := 6) rfl)) tyX6 tyX6_ok nmX6 hown hK hP hD hS 0 rfl rfl 16 (by decide) (hts (.fieldLink RX6 34 "AlibiDealsModel" "leftPassed" "[I") (wd_mem (p := 1107) (by decide +kernel))) (fun _ h9 => h9) rfl hin rfl (by decide +kernel) rfl rfl (Nat.le_of_ble_eq_true rfl) dX6_init_73 (fun H locs hP hD hS => ?_)
  have hP : va_P D vwCl [(h0, .inr (6, [.int 0, .ref q1, .ref q2, .int 0, .ref q3, .int 0, .ref q4, .int 0, .int 0, .int 0, .ref q5, .int 0, .ref q6, .int 0, .ref q7, .ref q8, .ref q9, .null, .int 0])), (q1, .inl (cI, 72, .inl (fun _ => 0))), (q2, .inl (cI, 360, .inl (fun _ => 0))), (q3, .inl (cI, 72, .inl (fun _ => 0))), (q4, .inl (cI, 60, .inl (fun _ => 0))), (q5, .inl (cI, 93, .inl (fun _ => 0))), (q6, .inl (cI, 4, .inl (fun _ => 0))), (q7, .inl (cI, 36, .inl (fun _ => 0))), (q8, .inl (cI, 27, .inl (fun _ => 0))), (q9, .inl (cI, 81, .inl (fun _ => 0)))] H := hP
  have hD : va_D A [(h0, .inr (6, [.int 0, .ref q1, .ref q2, .int 0, .ref q3, .int 0, .ref q4, .int 0, .int 0, .int 0, .ref q5, .int 0, .ref q6, .int 0, .ref q7, .ref q8, .ref q9, .null, .int 0])), (q1, .inl (cI, 72, .inl (fun _ => 0))), (q2, .inl (cI, 360, .inl (fun _ => 0))), (q3, .inl (cI, 72, .inl (fun _ => 0))), (q4, .inl (cI, 60, .inl (fun _ => 0))), (q5, .inl (cI, 93, .inl (fun _ => 0))), (q6, .inl (cI, 4, .inl (fun _ => 0))), (q7, .inl (cI, 36, .inl (fun _ => 0))), (q8, .inl (cI, 27, .inl (fun _ => 0))), (q9, .inl (cI, 81, .inl (fun _ => 0)))] := hD
  refine lv_aload_n hx hb dX6_init_76 rfl (lv_at hl 0 rfl) ?_
  refine lv_bipush (v := nI 9) hx hb dX6_init_77 (by decide) ?_
  refine al_newi (n := 9) hx hb (hts _ w_aI) hK hP hD hS hA (by decide) (Nat.le_of_ble_eq_true rfl) (Nat.le_of_ble_eq_true rfl) dX6_init_79 (fun q10 H hP hD hS => ?_)
  refine va_putF (D := D) (ci := 6) (C := RX6) (T := TX6) (N := 19) (ty := tyX6 17) hx hb hts (cls_w _ (List.mem_of_getElem? (i := 6) rfl)) tyX6 tyX6_ok nmX6 hown hK hP hD hS 0 rfl rfl 17 (by decide) (hts (.fieldLink RX6 37 "AlibiDealsModel" "places" "[I") (wd_mem (p := 1108) (by decide +kernel))) (fun _ h9 => h9) rfl hin rfl (by decide +kernel) rfl rfl (Nat.le_of_ble_eq_true rfl) dX6_init_81 (fun H locs hP hD hS => ?_)
  have hP : va_P D vwCl [(h0, .inr (6, [.int 0, .ref q1, .ref q2, .int 0, .ref q3, .int 0, .ref q4, .int 0, .int 0, .int 0, .ref q5, .int 0, .ref q6, .int 0, .ref q7, .ref q8, .ref q9, .ref q10, .int 0])), (q1, .inl (cI, 72, .inl (fun _ => 0))), (q2, .inl (cI, 360, .inl (fun _ => 0))), (q3, .inl (cI, 72, .inl (fun _ => 0))), (q4, .inl (cI, 60, .inl (fun _ => 0))), (q5, .inl (cI, 93, .inl (fun _ => 0))), (q6, .inl (cI, 4, .inl (fun _ => 0))), (q7, .inl (cI, 36, .inl (fun _ => 0))), (q8, .inl (cI, 27, .inl (fun _ => 0))), (q9, .inl (cI, 81, .inl (fun _ => 0))), (q10, .inl (cI, 9, .inl (fun _ => 0)))] H := hP
  have hD : va_D A [(h0, .inr (6, [.int 0, .ref q1, .ref q2, .int 0, .ref q3, .int 0, .ref q4, .int 0, .int 0, .int 0, .ref q5, .int 0, .ref q6, .int 0, .ref q7, .ref q8, .ref q9, .ref q10, .int 0])), (q1, .inl (cI, 72, .inl (fun _ => 0))), (q2, .inl (cI, 360, .inl (fun _ => 0))), (q3, .inl (cI, 72, .inl (fun _ => 0))), (q4, .inl (cI, 60, .inl (fun _ => 0))), (q5, .inl (cI, 93, .inl (fun _ => 0))), (q6, .inl (cI, 4, .inl (fun _ => 0))), (q7, .inl (cI, 36, .inl (fun _ => 0))), (q8, .inl (cI, 27, .inl (fun _ => 0))), (q9, .inl (cI, 81, .inl (fun _ => 0))), (q10, .inl (cI, 9, .inl (fun _ => 0)))] := hD
  refine lv_aload_n hx hb dX6_init_84 rfl (lv_at hl 0 rfl) ?_
  refine lv_iconst (v := 0) hx hb dX6_init_85 (by decide) ?_
  refine va_put (D := D) (ci := 6) (C := RX6) (T := TX6) (N := 19) (ty := .int) hx hb hts (cls_w _ (List.mem_of_getElem? (i := 6) rfl)) tyX6 tyX6_ok nmX6 hown hK hP hD hS 0 rfl rfl 0 (by decide) (hts (.fieldLink RX6 40 "AlibiDealsModel" "thrown" "I") (wd_mem (p := 1091) (by decide +kernel))) (fun _ h9 => h9) rfl (by decide +kernel) rfl rfl (Nat.le_of_ble_eq_true rfl) dX6_init_86 (fun H locs hP hD hS => ?_)
  have hP : va_P D vwCl [(h0, .inr (6, [.int 0, .ref q1, .ref q2, .int 0, .ref q3, .int 0, .ref q4, .int 0, .int 0, .int 0, .ref q5, .int 0, .ref q6, .int 0, .ref q7, .ref q8, .ref q9, .ref q10, .int 0])), (q1, .inl (cI, 72, .inl (fun _ => 0))), (q2, .inl (cI, 360, .inl (fun _ => 0))), (q3, .inl (cI, 72, .inl (fun _ => 0))), (q4, .inl (cI, 60, .inl (fun _ => 0))), (q5, .inl (cI, 93, .inl (fun _ => 0))), (q6, .inl (cI, 4, .inl (fun _ => 0))), (q7, .inl (cI, 36, .inl (fun _ => 0))), (q8, .inl (cI, 27, .inl (fun _ => 0))), (q9, .inl (cI, 81, .inl (fun _ => 0))), (q10, .inl (cI, 9, .inl (fun _ => 0)))] H := hP
  have hD : va_D A [(h0, .inr (6, [.int 0, .ref q1, .ref q2, .int 0, .ref q3, .int 0, .ref q4, .int 0, .int 0, .int 0, .ref q5, .int 0, .ref q6, .int 0, .ref q7, .ref q8, .ref q9, .ref q10, .int 0])), (q1, .inl (cI, 72, .inl (fun _ => 0))), (q2, .inl (cI, 360, .inl (fun _ => 0))), (q3, .inl (cI, 72, .inl (fun _ => 0))), (q4, .inl (cI, 60, .inl (fun _ => 0))), (q5, .inl (cI, 93, .inl (fun _ => 0))), (q6, .inl (cI, 4, .inl (fun _ => 0))), (q7, .inl (cI, 36, .inl (fun _ => 0))), (q8, .inl (cI, 27, .inl (fun _ => 0))), (q9, .inl (cI, 81, .inl (fun _ => 0))), (q10, .inl (cI, 9, .inl (fun _ => 0)))] := hD
  refine lv_aload_n hx hb dX6_init_89 rfl (lv_at hl 0 rfl) ?_
  refine va_get (D := D) (C := RX6) (T := TX6) (N := 19) (ci := 6) (v := .ref q1) hx hb hts (cls_w _ (List.mem_of_getElem? (i := 6) rfl)) hown hK hP 0 rfl rfl 1 (by decide) (hts (.fieldLink RX6 7 "AlibiDealsModel" "s" "[I") (wd_mem (p := 1092) (by decide +kernel))) (fun _ h9 => h9) rfl dX6_init_90 ?_
  refine lv_iconst (v := nI 1) hx hb dX6_init_93 (by decide) ?_
  refine lv_iconst (v := cst (-1)) hx hb dX6_init_94 (by decide) ?_
  refine va_iast hx hb hK hP hD hS 1 0 rfl rfl (vi (n := 1) rfl (by decide) (by decide)) dX6_init_95 (fun H locs hP hD hS => ?_)
  have hP : va_P D vwCl [(h0, .inr (6, [.int 0, .ref q1, .ref q2, .int 0, .ref q3, .int 0, .ref q4, .int 0, .int 0, .int 0, .ref q5, .int 0, .ref q6, .int 0, .ref q7, .ref q8, .ref q9, .ref q10, .int 0])), (q1, .inl (cI, 72, .inl (sI0 0))), (q2, .inl (cI, 360, .inl (fun _ => 0))), (q3, .inl (cI, 72, .inl (fun _ => 0))), (q4, .inl (cI, 60, .inl (fun _ => 0))), (q5, .inl (cI, 93, .inl (fun _ => 0))), (q6, .inl (cI, 4, .inl (fun _ => 0))), (q7, .inl (cI, 36, .inl (fun _ => 0))), (q8, .inl (cI, 27, .inl (fun _ => 0))), (q9, .inl (cI, 81, .inl (fun _ => 0))), (q10, .inl (cI, 9, .inl (fun _ => 0)))] H := hP
  have hD : va_D A [(h0, .inr (6, [.int 0, .ref q1, .ref q2, .int 0, .ref q3, .int 0, .ref q4, .int 0, .int 0, .int 0, .ref q5, .int 0, .ref q6, .int 0, .ref q7, .ref q8, .ref q9, .ref q10, .int 0])), (q1, .inl (cI, 72, .inl (sI0 0))), (q2, .inl (cI, 360, .inl (fun _ => 0))), (q3, .inl (cI, 72, .inl (fun _ => 0))), (q4, .inl (cI, 60, .inl (fun _ => 0))), (q5, .inl (cI, 93, .inl (fun _ => 0))), (q6, .inl (cI, 4, .inl (fun _ => 0))), (q7, .inl (cI, 36, .inl (fun _ => 0))), (q8, .inl (cI, 27, .inl (fun _ => 0))), (q9, .inl (cI, 81, .inl (fun _ => 0))), (q10, .inl (cI, 9, .inl (fun _ => 0)))] := hD
  refine lv_iconst (v := nI 0) hx hb dX6_init_96 (by decide) ?_
  refine lv_istore_n (lv' := [(1, .int (nI 0)), (0, .ref h0)]) hx hb dX6_init_97 rfl hl (by decide) rfl (fun ls hl => ?_)
  have loop : ∀ (n k : Nat), k + n = 9 → ∀ (ls : Array Slot) (H : Heap) (locs : List Loc), lv_has ls 2 [(1, .int (nI k)), (0, .ref h0)] → va_P D vwCl [(h0, .inr (6, [.int 0, .ref q1, .ref q2, .int 0, .ref q3, .int 0, .ref q4, .int 0, .int 0, .int 0, .ref q5, .int 0, .ref q6, .int 0, .ref q7, .ref q8, .ref q9, .ref q10, .int 0])), (q1, .inl (cI, 72, .inl (sI0 k))), (q2, .inl (cI, 360, .inl (fun _ => 0))), (q3, .inl (cI, 72, .inl (fun _ => 0))), (q4, .inl (cI, 60, .inl (fun _ => 0))), (q5, .inl (cI, 93, .inl (fun _ => 0))), (q6, .inl (cI, 4, .inl (fun _ => 0))), (q7, .inl (cI, 36, .inl (fun _ => 0))), (q8, .inl (cI, 27, .inl (fun _ => 0))), (q9, .inl (cI, 81, .inl (fun _ => 0))), (q10, .inl (cI, 9, .inl (fun _ => 0)))] H → va_D A [(h0, .inr (6, [.int 0, .ref q1, .ref q2, .int 0, .ref q3, .int 0, .ref q4, .int 0, .int 0, .int 0, .ref q5, .int 0, .ref q6, .int 0, .ref q7, .ref q8, .ref q9, .ref q10, .int 0])), (q1, .inl (cI, 72, .inl (sI0 k))), (q2, .inl (cI, 360, .inl (fun _ => 0))), (q3, .inl (cI, 72, .inl (fun _ => 0))), (q4, .inl (cI, 60, .inl (fun _ => 0))), (q5, .inl (cI, 93, .inl (fun _ => 0))), (q6, .inl (cI, 4, .inl (fun _ => 0))), (q7, .inl (cI, 36, .inl (fun _ => 0))), (q8, .inl (cI, 27, .inl (fun _ => 0))), (q9, .inl (cI, 81, .inl (fun _ => 0))), (q10, .inl (cI, 9, .inl (fun _ => 0)))] → va_S A s.heap H locs → W p l e { frames := 1, cells := 10, slots := 814, locals := 12 } s m #[.ref h0] below meth c H locs 10 814 (MQ below (PostN D cI cL cS mN_X6 6 [.int 0, .null, .null, .int 0, .null, .int 0, .null, .int 0, .int 0, .int 0, .null, .int 0, .null, .int 0, .null, .null, .null, .null, .int 0] h0 s.heap.size) #[.ref h0] s 10 814 A) (F0 m 98 ls []) := by
    intro n
    induction n with
    | zero =>
      intro k hk ls H locs hl hP hD hS
      obtain rfl : k = 9 := by omega
      refine lv_iload_n hx hb dX6_init_98 rfl (lv_at hl 0 rfl) ?_
      refine lv_bipush (v := nI 9) hx hb dX6_init_99 (by decide) ?_
      refine lv_icmp_ge (tgt := 131) hx hb dX6_init_101 (by decide) (fun _ => ?_) (fun z => absurd z (by decide))
      subst hAe
      exact W.vret hx hb hr (fun t ht hW => ⟨⟨rfl, (fun i => [h0, q1, q2, q3, q4, q5, q6, q7, q8, q9, q10].getD i 0), rfl, by rw [ht]; exact hP, hD⟩, hS.F ht⟩) hS.2.2 dX6_init_131
    | succ n ih =>
      intro k hk ls H locs hl hP hD hS
      have hk9 : k < 9 := by omega
      have eidx : nI 3 + nI k = nI (3 + k) := nI_add 3 k
      refine lv_iload_n hx hb dX6_init_98 rfl (lv_at hl 0 rfl) ?_
      refine lv_bipush (v := nI 9) hx hb dX6_init_99 (by decide) ?_
      refine lv_icmp_ge (tgt := 131) hx hb dX6_init_101 (by decide) (fun z => absurd z (nI_ge hk9 (by decide))) (fun _ => ?_)
      refine lv_aload_n hx hb dX6_init_104 rfl (lv_at hl 1 rfl) ?_
      refine va_get (D := D) (C := RX6) (T := TX6) (N := 19) (ci := 6) (v := .ref q1) hx hb hts (cls_w _ (List.mem_of_getElem? (i := 6) rfl)) hown hK hP 0 rfl rfl 1 (by decide) (hts (.fieldLink RX6 7 "AlibiDealsModel" "s" "[I") (wd_mem (p := 1092) (by decide +kernel))) (fun _ h9 => h9) rfl dX6_init_105 ?_
      refine lv_iconst (v := nI 3) hx hb dX6_init_108 (by decide) ?_
      refine lv_iload_n hx hb dX6_init_109 rfl (lv_at hl 0 rfl) ?_
      refine lv_iadd hx hb dX6_init_110 ?_
      rw [eidx]
      refine lv_iload_n hx hb dX6_init_111 rfl (lv_at hl 0 rfl) ?_
      refine lv_iconst (v := nI 3) hx hb dX6_init_112 (by decide) ?_
      refine lv_irem hx hb dX6_init_113 (by decide) ?_
      have fin : ∀ (x : Int32), x = (if k % 3 = 0 then nI 3 else nI (k / 3)) → W p l e { frames := 1, cells := 10, slots := 814, locals := 12 } s m #[.ref h0] below meth c H locs 10 814 (MQ below (PostN D cI cL cS mN_X6 6 [.int 0, .null, .null, .int 0, .null, .int 0, .null, .int 0, .int 0, .int 0, .null, .int 0, .null, .int 0, .null, .null, .null, .null, .int 0] h0 s.heap.size) #[.ref h0] s 10 814 A) (F0 m 124 ls [.int x, .int (nI (3 + k)), .ref q1]) := by
        intro x ex
        refine va_iast hx hb hK hP hD hS 1 0 rfl rfl (vi (n := 3 + k) rfl (by omega) (by decide)) dX6_init_124 (fun H locs hP hD hS => ?_)
        rw [nI_clamp (show 3 + k < 2 ^ 31 by omega), ex] at hP hD
        refine lv_iinc (v := nI (k + 1)) (lv' := [(1, .int (nI (k + 1))), (0, .ref h0)]) hx hb dX6_init_125 hl (k := 0) rfl (by rw [nI_succ]; rfl) (by decide) rfl (fun ls hl => ?_)
        refine lv_goto (tgt := 98) hx hb dX6_init_128 (by decide) ?_
        exact ih (k + 1) (by omega) ls H locs hl hP hD hS
      have hrem : nI k - nI k / nI 3 * nI 3 = nI (k % 3) := rem3 hk9
      rw [hrem]
      by_cases h3 : k % 3 = 0
      · rw [h3]
        refine lv_if_ne (tgt := 121) hx hb dX6_init_114 (by decide) (fun z => absurd rfl z) (fun _ => ?_)
        refine lv_iconst (v := nI 3) hx hb dX6_init_117 (by decide) ?_
        refine lv_goto (tgt := 124) hx hb dX6_init_118 (by decide) ?_
        exact fin _ (by rw [if_pos h3])
      · refine lv_if_ne (tgt := 121) hx hb dX6_init_114 (by decide) (fun _ => ?_) (fun z => absurd z (nI_ne0 (by omega) (by omega)))
        refine lv_iload_n hx hb dX6_init_121 rfl (lv_at hl 0 rfl) ?_
        refine lv_iconst (v := nI 3) hx hb dX6_init_122 (by decide) ?_
        refine lv_idiv hx hb dX6_init_123 (by decide) ?_
        exact fin _ (by rw [if_neg h3]; exact div3 hk9)
  exact loop 9 0 rfl ls H locs hl hP hD hS
