/-! the reference: rules -/
def chgB (v w : NA) : Bool := (List.range 9).any (fun c => !Nat.beq (w c) (v c))
theorem chgB_f {v w : NA} : chgB v w = false ↔ ∀ c, c < 9 → w c = v c := by
  unfold chgB
  rw [List.any_eq_false]
  constructor
  · intro h c hc
    have := h c (List.mem_range.mpr hc)
    cases hb : Nat.beq (w c) (v c) with
    | true => exact Nat.eq_of_beq_eq_true hb
    | false => rw [hb] at this; exact absurd rfl this
  · intro h c hc z
    rw [nbt (h c (List.mem_range.mp hc))] at z
    cases z
theorem chgB_refl (v : NA) : chgB v v = false := chgB_f.mpr (fun _ _ => rfl)
theorem bool_ff {a b : Bool} (h : a = false ↔ b = false) : a = b := by
  cases a <;> cases b <;> simp_all
theorem chgB_trans {v w u : NA} (h1 : rl_le u w) (h2 : rl_le w v) : chgB v u = (chgB w u || chgB v w) := by
  apply bool_ff
  rw [Bool.or_eq_false_iff, chgB_f, chgB_f, chgB_f]
  constructor
  · intro h
    have e : ∀ c, c < 9 → w c = v c := fun c hc => rl_anti (h2 c hc) (by rw [← h c hc]; exact h1 c hc)
    exact ⟨fun c hc => by rw [h c hc, e c hc], e⟩
  · rintro ⟨a, b⟩ c hc
    rw [a c hc, b c hc]
theorem mapI_le {cond : Nat → Bool} {g : Nat → Nat} (hg : ∀ x, x < 16 → g x < 16 ∧ rl_sub (g x) x = true) (i : Nat) {v : NA} (hv : rl_ok v) : rl_ok (mapI i cond g v) ∧ rl_le (mapI i cond g v) v := by
  refine ⟨fun c hc => ?_, fun c hc => ?_⟩
  · unfold mapI; split
    · exact (hg _ (hv c hc)).1
    · exact hv c hc
  · unfold mapI; split
    · exact (hg _ (hv c hc)).2
    · exact rl_sub_refl _
theorem chg_step {i : Nat} {cond : Nat → Bool} {g : Nat → Nat} {v : NA} (hi : i < 9) (hc : cond i = true) : chgB v (mapI (i + 1) cond g v) = (!Nat.beq (g (v i)) (v i) || chgB v (mapI i cond g v)) := by
  apply bool_ff
  rw [Bool.or_eq_false_iff, chgB_f, chgB_f]
  have e1 : mapI (i + 1) cond g v i = g (v i) := if_pos ⟨Nat.lt_succ_self i, hc⟩
  constructor
  · intro h
    refine ⟨by rw [← e1, h i hi, nbt rfl]; rfl, fun c hc2 => ?_⟩
    have := h c hc2
    unfold mapI at this ⊢
    by_cases q : c < i ∧ cond c = true
    · rw [if_pos q]; rw [if_pos ⟨by omega, q.2⟩] at this; exact this
    · rw [if_neg q]
  · rintro ⟨h1, h2⟩ c hc2
    by_cases q : c = i
    · subst q
      rw [e1]
      cases hb : Nat.beq (g (v c)) (v c) with
      | true => exact Nat.eq_of_beq_eq_true hb
      | false => rw [hb] at h1; cases h1
    · have := h2 c hc2
      unfold mapI at this ⊢
      by_cases q2 : c < i ∧ cond c = true
      · rw [if_pos q2] at this; rw [if_pos ⟨by omega, q2.2⟩]; exact this
      · rw [if_neg (fun z => q2 ⟨by omega, z.2⟩)]
def sv1 (c s : Nat) (v : NA) : NA := fun j => if j = c then v c &&& s else v j
theorem sv1_map {i s : Nat} {cond : Nat → Bool} {v : NA} (hc : cond i = true) : sv1 i s (mapI i cond (fun x => x &&& s) v) = mapI (i + 1) cond (fun x => x &&& s) v := by
  funext j
  unfold sv1 mapI
  by_cases q : j = i
  · subst q
    rw [if_pos rfl, if_neg (by omega), if_pos ⟨Nat.lt_succ_self _, hc⟩]
  · rw [if_neg q]
    by_cases q2 : j < i ∧ cond j = true
    · rw [if_pos q2, if_pos ⟨by omega, q2.2⟩]
    · rw [if_neg q2, if_neg (fun z => q2 ⟨by omega, z.2⟩)]
theorem and_g (s : Nat) : ∀ x, x < 16 → x &&& s < 16 ∧ rl_sub (x &&& s) x = true := fun x hx => ⟨rl_and_lt hx, rl_sub_and x s⟩
theorem l15_all : (List.range 4).all (fun p => Nat.beq (15 &&& (2 ^ p ^^^ 4294967295)) (15 - 2 ^ p)) = true := by decide +kernel
theorem l15 {p : Nat} (hp : p < 4) : nI 15 &&& (nI 1 <<< (nI p &&& 31) ^^^ cst (-1)) = nI (15 - 2 ^ p) := by
  rw [sh_1 (by omega), cm1, nI_xor, nI_and, Nat.eq_of_beq_eq_true (List.all_eq_true.mp l15_all p (List.mem_range.mpr hp))]
section M8
variable {d : Nat} {vT vM vS vL vP vW vR vF vB : Int32} {aS aH aN aX aR aD aW aI aQ aL : IA} {cl : List rl_C} {v : NA}
theorem m_keeps {c s : Nat} (hc : c < 9) (hv : rl_ok v) (hs : s < 16) : Cl (d + 1) kX6_keeps [.ref 0, .int (nI c), .int (nI s)] ((rfM vT aS aH vM aN vS aX vL vP vW aR vR aD vF aW aI aQ (nA v) vB)) (rV (bI (!Nat.beq (v c &&& s) (v c)))) ((rfM vT aS aH vM aN vS aX vL vP vW aR vR aD vF aW aI aQ (nA (sv1 c s v)) vB)) := by
  have hvc := hv c hc
  have e0 : nA v (nI c).toNatClampNeg = nI (v c) := by rw [nI_clamp (by omega)]; rfl
  have e1 : upd (nA v) (nI c).toNatClampNeg (nA v (nI c).toNatClampNeg &&& nI s) = nA (sv1 c s v) := by
    rw [e0, nI_clamp (by omega), nI_and]
    funext j
    unfold upd nA sv1
    by_cases q : j = c
    · rw [if_pos q, if_pos q]
    · rw [if_neg q, if_neg q]
  have e2 : nA (sv1 c s v) (nI c).toNatClampNeg = nI (v c &&& s) := by
    rw [nI_clamp (by omega)]
    show nI (if c = c then v c &&& s else v c) = _
    rw [if_pos rfl]
  have hlt : v c &&& s < 16 := rl_and_lt hvc
  refine Cl_go e_X6_keeps (Nat.le_of_ble_eq_true rfl) rfl ?_; intro P hP; refine hP _ _ _ _ ?_; (conv => whnf)
  refine ⟨vi rfl hc (by decide), ?_⟩; (conv => whnf)
  refine ⟨vi rfl hc (by decide), ?_⟩; (conv => whnf)
  rw [e1]
  (conv => whnf)
  refine ⟨vi rfl hc (by decide), ?_⟩; (conv => whnf)
  refine b2 (v c &&& s) (v c) e2 e0 (by omega) (by omega) (fun (q : v c &&& s = v c) => ?_) (fun (q : ¬ v c &&& s = v c) => ?_)
  · refine hP _ _ _ _ ?_; (conv => whnf)
    refine hP _ _ _ _ ?_; (conv => whnf)
    exact ⟨rfl, ⟨.boolean, rfl, rfl⟩, rI (by rw [nbt q]; rfl), rfl⟩
  · (conv => whnf)
    refine hP _ _ _ _ ?_; (conv => whnf)
    exact ⟨rfl, ⟨.boolean, rfl, rfl⟩, rI (by rw [nbf q]; rfl), rfl⟩
end M8
