/-! Double.doubleToLongBits, by hand -/
theorem n64_mod (b : UInt64) : (b &&& 0x7fffffffffffffff).toNat = b.toNat % 2 ^ 63 := by
  rw [UInt64.toNat_and]
  exact Nat.and_two_pow_sub_one_eq_mod _ 63
theorem n64_val {b : UInt64} (h : vf_n64 b) : FP.Core.val64 b ≠ .nan := by
  intro q
  have h1 := (FP.Core.isNaN_bits b).mp ((FP.Core.dIsNaN_iff b).mpr q)
  have h2 := UInt64.le_iff_toNat_le.mp h
  rw [n64_mod] at h2
  have h3 : (0x7ff0000000000000 : UInt64).toNat = 9218868437227405312 := rfl
  omega
set_option maxHeartbeats 4000000 in
theorem nan_met (l : Launch) (d : Nat) (b : UInt64) (hb0 : vf_n64 b) : Met l (mY kJxe99ae_isNaN_b9ae7) (wsk kJxe99ae_isNaN_b9ae7) (rmd d) (va_Pc [.double b] (fun _ => True)) (vp_Si fun r => r = 0) 0 0 (fun _ => False) := by
  refine Met.ofW (cc := mB kJxe99ae_isNaN_b9ae7) (maxL := 2) (ret := some .boolean) (ck_facts (by decide)).1 rfl ?_
  intro p e s m args below meth c s₁ B hml hv
  obtain ⟨rfl, -⟩ := hv
  have hx := B.exec
  have hb := B.bytes
  have hr := B.returns
  have hlocks := B.notSynchronized
  have hl := lv_entry ([.double b]) (n := 2) (Nat.le_of_ble_eq_true rfl)
  rw [lg_entry_eq]
  generalize (lg_sl ([.double b]) ++ List.replicate (2 - (lg_sl ([.double b])).length) Slot.unset).toArray = ls at hl ⊢
  have hl : lv_has ls 2 [(0, .double b)] := hl
  refine lv_dload_n hx hb (by decide +kernel : decode (mB kJxe99ae_isNaN_b9ae7) 0 = .ok (.dload_n 0, 1)) rfl (lv_at hl 0 rfl) ?_
  refine lv_dload_n hx hb (by decide +kernel : decode (mB kJxe99ae_isNaN_b9ae7) 1 = .ok (.dload_n 0, 1)) rfl (lv_at hl 0 rfl) ?_
  refine lv_dcmp hx hb (by decide +kernel : decode (mB kJxe99ae_isNaN_b9ae7) 2 = .ok (.dcmp .l, 1)) ?_
  rw [show FP.dcmp b b = some .eq from FP.Core.dcmp_self (n64_val hb0)]
  refine lv_if_eq hx hb (by decide +kernel : decode (mB kJxe99ae_isNaN_b9ae7) 3 = .ok (.ifCond .eq 7, 3)) (tgt := 10) rfl (fun _ => ?_) (fun z => absurd (by decide +kernel) z)
  refine lv_iconst (v := 0) hx hb (by decide +kernel : decode (mB kJxe99ae_isNaN_b9ae7) 10 = .ok (.iconst 0, 1)) (by decide) ?_
  exact W.zret (ty := .boolean) hx hb hr (by decide) (fun t ht hW => ⟨0, rfl, rfl, ht⟩) (fun _ z => by cases z) (by decide +kernel : decode (mB kJxe99ae_isNaN_b9ae7) 11 = .ok (.ireturn, 1))
set_option maxHeartbeats 4000000 in
theorem dl_ok (l : Launch) : CDL l := by
  intro d b hd hb0
  obtain ⟨d, rfl⟩ : ∃ z, d = z + 2 := ⟨d - 2, by omega⟩
  refine Met.ofW (cc := cDL) (maxL := 2) (ret := some .long) (by decide) rfl ?_
  intro p e s m args below meth c s₁ B hml hv
  obtain ⟨rfl, -⟩ := hv
  have hx := B.exec
  have hb := B.bytes
  have hr := B.returns
  have hlocks := B.notSynchronized
  have hts0 := atoms_spec (ws := wskD) B.pre
  have hts : ∀ w ∈ TT, w.before #[Value.double b] s = true := fun w z => hts0 w (List.mem_cons_of_mem _ z)
  have hown : s.vm.findClass "java/lang/Double" = some m.cls := findClass_of_methodNamed B.named
  have hl := lv_entry ([.double b]) (n := 2) (Nat.le_of_ble_eq_true rfl)
  rw [lg_entry_eq]
  generalize (lg_sl ([.double b]) ++ List.replicate (2 - (lg_sl ([.double b])).length) Slot.unset).toArray = ls at hl ⊢
  have hl : lv_has ls 2 [(0, .double b)] := hl
  refine lv_dload_n hx hb (by decide +kernel : decode cDL 0 = .ok (.dload_n 0, 1)) rfl (lv_at hl 0 rfl) ?_
  have hk9 : kJxe99ae_isNaN_b9ae7 < nM := by decide
  have hyn : mY kJxe99ae_isNaN_b9ae7 = ⟨"java/lang/Double", "isNaN", "(D)Z"⟩ := rfl
  have hT : GoodIn TT (va_wsS "java/lang/Double" 122 (mY kJxe99ae_isNaN_b9ae7) (wsk kJxe99ae_isNaN_b9ae7)) := by
    intro w hw
    rcases List.mem_append.mp hw with hw | hw
    · simp only [List.mem_cons, List.not_mem_nil, or_false] at hw
      rcases hw with rfl | rfl | rfl
      · exact TT_good (wd_mem (p := 1610) (by decide +kernel))
      · exact TT_good (wd_mem (p := 1611) (by decide +kernel))
      · exact TT_good (wd_mem (p := 112) (by decide +kernel))
    · exact wsk_good hk9 w hw
  refine vp_callSi (W.runS (As := [.double b]) (rest := []) (n := 1) (Ts := TT) ⟨hx, hb, hml, hown, hts⟩ (nan_met l (d + 1) b hb0)
    (va_cwS 1 hts hT rfl rfl rfl ⟨by decide, by decide, by decide +kernel⟩ ⟨Nat.le_refl _, by show 8 + (2 + 11) + 60 * (d + 1) ≤ 60 * (d + 2); omega⟩) ⟨fun _ _ _ _ q => q, fun _ _ _ => ⟨rfl, trivial⟩⟩ rfl rfl hl.1 rfl (lv_room (by decide)) (by decide +kernel : decode cDL 1 = .ok (.invokestatic 122, 3)) ⟨Nat.le_refl _, Nat.le_refl _⟩) (fun r hr0 => ?_)
  subst hr0
  refine lv_if_ne hx hb (by decide +kernel : decode cDL 4 = .ok (.ifCond .ne 8, 3)) (tgt := 12) rfl (fun z => absurd rfl z) (fun _ => ?_)
  refine lv_dload_n hx hb (by decide +kernel : decode cDL 7 = .ok (.dload_n 0, 1)) rfl (lv_at hl 0 rfl) ?_
  refine vn_d2l hx hb (hml.trans hl.1.symm) hown (hts _ (wd_mem (p := 1613) (by decide +kernel))) (hts _ (wd_mem (p := 1615) (by decide +kernel))) (hts _ (wd_mem (p := 1614) (by decide +kernel))) (hts _ (wd_mem (p := 112) (by decide +kernel))) (Nat.le_add_left 1 _) (by show 0 + 15 ≤ 60 * (d + 2); omega) (by decide +kernel : decode cDL 8 = .ok (.invokestatic 134, 3)) ?_
  exact W.lret hx hb hr (fun t ht hW => ⟨rfl, ht⟩) (fun _ z => by cases z) (by decide +kernel : decode cDL 11 = .ok (.lreturn, 1))
