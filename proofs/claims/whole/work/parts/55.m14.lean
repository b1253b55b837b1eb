/-! the reference: its state, and what changes it -/
/-- a state's row of 72 numbers -/
def stM (f : IA) (a : SA) : Prop := clS f a.1 ∧ plS f a.2.1 ∧ f 1 = (if a.2.2.2 = 0 then cst (-1) else nI a.2.2.1) ∧ f 2 = nI a.2.2.2 ∧ okA a
theorem stM_congr {f g : IA} {a : SA} (h : stM f a) (e : ∀ i, i < 72 → f i = g i) : stM g a := by
  obtain ⟨⟨h1, h2, h3, h4⟩, h5, h6, h7, h8⟩ := h
  refine ⟨⟨by rw [← e 0 (by decide)]; exact h1, h2, h3, fun i x hx => ?_⟩, fun c hc => ?_, by rw [← e 1 (by decide)]; exact h6, by rw [← e 2 (by decide)]; exact h7, h8⟩
  · have hi : i < a.1.length := (List.getElem?_eq_some_iff.mp hx).1
    rw [← e (12 + 3 * i) (by omega), ← e (13 + 3 * i) (by omega), ← e (14 + 3 * i) (by omega)]
    exact h4 i x hx
  · rw [← e (3 + c) (by omega)]; exact h5 c hc
def adF (f : IA) (n : Nat) (K p c : Int32) : IA := upd (upd (upd (upd f (12 + 3 * n) K) (13 + 3 * n) p) (14 + 3 * n) c) 0 (nI (n + 1))
theorem stM_add {f : IA} {a : SA} (h : stM f a) (hn : a.1.length < 20) {x : rl_C} (hx : clX x) : stM (adF f a.1.length (nI x.1) (plI x) (nI x.2.2)) (a.1 ++ [x], a.2) := by
  obtain ⟨⟨h1, h2, h3, h4⟩, h5, h6, h7, h8⟩ := h
  have lo : ∀ j, 0 < j → ¬ j = 12 + 3 * a.1.length → ¬ j = 13 + 3 * a.1.length → ¬ j = 14 + 3 * a.1.length → adF f a.1.length (nI x.1) (plI x) (nI x.2.2) j = f j := by
    intro j h0 e1 e2 e3
    unfold adF upd
    rw [if_neg (by omega), if_neg e3, if_neg e2, if_neg e1]
  refine ⟨⟨?_, ?_, ?_, ?_⟩, fun c hc => ?_, ?_, ?_, ?_⟩
  · show upd _ 0 _ 0 = nI (a.1 ++ [x]).length
    rw [upd_eq, List.length_append]; rfl
  · show (a.1 ++ [x]).length ≤ 20
    rw [List.length_append]; show a.1.length + 1 ≤ 20; omega
  · intro y hy
    rcases List.mem_append.mp hy with e | e
    · exact h3 y e
    · rcases List.mem_cons.mp e with e | e
      · rw [e]; exact hx
      · cases e
  · intro i y hi
    have hi : (a.1 ++ [x])[i]? = some y := hi
    by_cases hil : i < a.1.length
    · rw [List.getElem?_append_left hil] at hi
      rw [lo _ (by omega) (by omega) (by omega) (by omega), lo _ (by omega) (by omega) (by omega) (by omega), lo _ (by omega) (by omega) (by omega) (by omega)]
      exact h4 i y hi
    · rw [List.getElem?_append_right (by omega)] at hi
      have h0 : i - a.1.length = 0 := by
        by_cases h0 : i - a.1.length = 0
        · exact h0
        · obtain ⟨k, hk⟩ : ∃ k, i - a.1.length = k + 1 := ⟨i - a.1.length - 1, by omega⟩
          rw [hk] at hi; cases hi
      rw [h0] at hi
      have hi : x = y := Option.some.inj hi
      subst hi
      have hii : i = a.1.length := by omega
      subst hii
      unfold adF upd
      refine ⟨?_, ?_, ?_⟩
      · rw [if_neg (by omega), if_neg (by omega), if_neg (by omega), if_pos rfl]
      · rw [if_neg (by omega), if_neg (by omega), if_pos rfl]
      · rw [if_neg (by omega), if_pos rfl]
  · rw [lo _ (by omega) (by omega) (by omega) (by omega)]; exact h5 c hc
  · rw [lo _ (by omega) (by omega) (by omega) (by omega)]; exact h6
  · rw [lo _ (by omega) (by omega) (by omega) (by omega)]; exact h7
  · refine ⟨?_, ?_, h8.2.2⟩
    · show (a.1 ++ [x]).length ≤ 20
      rw [List.length_append]; show a.1.length + 1 ≤ 20; omega
    · intro y hy
      rcases List.mem_append.mp hy with e | e
      · exact h8.2.1 y e
      · rcases List.mem_cons.mp e with e | e
        · rw [e]; exact hx.1
        · cases e
/-- cards of clues shifted -/
def shf (c k : Nat) (f : IA) : IA := fun j => if 12 + 3 * c ≤ j ∧ j < 12 + k then f (j + 3) else f j
theorem shf_0 (c : Nat) (f : IA) : shf c (3 * c) f = f := by
  funext j; exact if_neg (by omega)
theorem shf_s {c k : Nat} (hk : 3 * c ≤ k) (f : IA) : upd (shf c k f) (12 + k) (shf c k f (12 + k + 3)) = shf c (k + 1) f := by
  funext j
  unfold upd shf
  by_cases hj : j = 12 + k
  · subst hj
    rw [if_pos rfl, if_neg (by omega), if_pos (by omega)]
  · rw [if_neg hj]
    by_cases hl : 12 + 3 * c ≤ j ∧ j < 12 + k
    · rw [if_pos hl, if_pos (by omega)]
    · rw [if_neg hl, if_neg (by omega)]
def dpF (f : IA) (n c : Nat) : IA := shf c (3 * (n - 1)) (upd f 0 (nI (n - 1)))
theorem stM_drop {f : IA} {a : SA} (h : stM f a) {c : Nat} (hc : c < a.1.length) : stM (dpF f a.1.length c) (a.1.eraseIdx c, a.2) := by
  obtain ⟨⟨h1, h2, h3, h4⟩, h5, h6, h7, h8⟩ := h
  have hl : (a.1.eraseIdx c).length = a.1.length - 1 := by rw [List.length_eraseIdx, if_pos hc]
  have lo : ∀ j, 0 < j → j < 12 + 3 * c → dpF f a.1.length c j = f j := by
    intro j h0 e1
    unfold dpF shf
    rw [if_neg (by omega)]
    exact upd_ne _ _ (by omega)
  have hi' : ∀ j, 12 + 3 * c ≤ j → j < 12 + 3 * (a.1.length - 1) → dpF f a.1.length c j = f (j + 3) := by
    intro j e1 e2
    unfold dpF shf
    rw [if_pos ⟨e1, e2⟩]
    exact upd_ne _ _ (by omega)
  refine ⟨⟨?_, by show (a.1.eraseIdx c).length ≤ 20; omega, fun y hy => h3 y (List.mem_of_mem_eraseIdx hy), fun i y hi => ?_⟩, fun p hp => ?_, ?_, ?_, ?_⟩
  · show dpF f a.1.length c 0 = nI (a.1.eraseIdx c).length
    rw [hl]
    unfold dpF shf
    rw [if_neg (by omega), upd_eq]
  · have hi : (a.1.eraseIdx c)[i]? = some y := hi
    have hil : i < (a.1.eraseIdx c).length := (List.getElem?_eq_some_iff.mp hi).1
    rw [List.getElem?_eraseIdx] at hi
    by_cases hic : i < c
    · rw [if_pos hic] at hi
      rw [lo _ (by omega) (by omega), lo _ (by omega) (by omega), lo _ (by omega) (by omega)]
      exact h4 i y hi
    · rw [if_neg hic] at hi
      have := h4 (i + 1) y hi
      rw [hi' _ (by omega) (by omega), hi' _ (by omega) (by omega), hi' _ (by omega) (by omega)]
      rw [show 12 + 3 * i + 3 = 12 + 3 * (i + 1) by omega, show 13 + 3 * i + 3 = 13 + 3 * (i + 1) by omega, show 14 + 3 * i + 3 = 14 + 3 * (i + 1) by omega]
      exact this
  · rw [lo _ (by omega) (by omega)]; exact h5 p hp
  · rw [lo _ (by omega) (by omega)]; exact h6
  · rw [lo _ (by omega) (by omega)]; exact h7
  · exact ⟨by show (a.1.eraseIdx c).length ≤ 20; omega, fun y hy => h8.2.1 y (List.mem_of_mem_eraseIdx hy), h8.2.2⟩
theorem stM_nil {f : IA} {a : SA} (h : stM f a) : stM (upd f 0 (nI 0)) ([], a.2) := by
  obtain ⟨⟨h1, h2, h3, h4⟩, h5, h6, h7, h8⟩ := h
  refine ⟨⟨upd_eq _ _ _, Nat.zero_le _, fun y hy => (by cases hy), fun i y hi => (by cases hi)⟩, fun c hc => ?_, ?_, ?_, ⟨Nat.zero_le _, fun y hy => (by cases hy), h8.2.2⟩⟩
  · rw [upd_ne _ _ (by omega)]; exact h5 c hc
  · rw [upd_ne _ _ (by omega)]; exact h6
  · rw [upd_ne _ _ (by omega)]; exact h7
def exF (f : IA) (a b : Nat) : IA := upd (upd f (3 + a) (f (3 + b))) (3 + b) (f (3 + a))
theorem plS_ex {f : IA} {q : NA} (h : plS f q) {a b : Nat} (ha : a < 9) (hb : b < 9) : plS (exF f a b) (swp q a b) := by
  intro c hc
  unfold exF swp
  by_cases e2 : c = b
  · subst e2
    rw [upd_eq]
    by_cases e1 : c = a
    · subst e1
      rw [if_pos rfl]; exact h c hc
    · rw [if_neg e1, if_pos rfl]; exact h a ha
  · rw [upd_ne _ _ (by omega)]
    by_cases e1 : c = a
    · subst e1
      rw [upd_eq, if_pos rfl]; exact h b hb
    · rw [upd_ne _ _ (by omega), if_neg e1, if_neg e2]; exact h c hc
theorem exF_hi (f : IA) {a b j : Nat} (ha : a < 9) (hb : b < 9) (hj : j < 3 ∨ 12 ≤ j) : exF f a b j = f j := by
  unfold exF
  rw [upd_ne _ _ (by omega), upd_ne _ _ (by omega)]
theorem stM_ex {f : IA} {a : SA} (h : stM f a) {x y : Nat} (hx : x < 9) (hy : y < 9) (ho : okQ (swp a.2.1 x y)) : stM (exF f x y) (a.1, (swp a.2.1 x y, a.2.2)) := by
  obtain ⟨⟨h1, h2, h3, h4⟩, h5, h6, h7, h8⟩ := h
  refine ⟨⟨by rw [exF_hi f hx hy (by omega)]; exact h1, h2, h3, fun i z hz => ?_⟩, plS_ex h5 hx hy, by rw [exF_hi f hx hy (by omega)]; exact h6, by rw [exF_hi f hx hy (by omega)]; exact h7, ⟨h8.1, h8.2.1, ho, h8.2.2.2⟩⟩
  rw [exF_hi f hx hy (by omega), exF_hi f hx hy (by omega), exF_hi f hx hy (by omega)]
  exact h4 i z hz
/-- the saved rows -/
def hiR (H : IA) (l : List SA) : Prop := l.length ≤ 5 ∧ ∀ (j : Nat) (a : SA), l[j]? = some a → stM (fun i => H (72 * j + i)) a
def cpR (o : Nat) (f : IA) (n : Nat) (H : IA) : IA := fun j => if o ≤ j ∧ j < o + n then f (j - o) else H j
theorem cpR_0 (o : Nat) (f H : IA) : cpR o f 0 H = H := by
  funext j; exact if_neg (by omega)
theorem cpR_s (o : Nat) (f : IA) (n : Nat) (H : IA) : upd (cpR o f n H) (o + n) (f n) = cpR o f (n + 1) H := by
  funext j
  unfold upd cpR
  by_cases hj : j = o + n
  · subst hj
    rw [if_pos rfl, if_pos (by omega), show o + n - o = n by omega]
  · rw [if_neg hj]
    by_cases hl : o ≤ j ∧ j < o + n
    · rw [if_pos hl, if_pos (by omega)]
    · rw [if_neg hl, if_neg (by omega)]
def dnR (n : Nat) (H : IA) : IA := fun j => if j < n then H (j + 72) else H j
theorem dnR_0 (H : IA) : dnR 0 H = H := by
  funext j; exact if_neg (Nat.not_lt_zero j)
theorem dnR_s (n : Nat) (H : IA) : upd (dnR n H) n (dnR n H (n + 72)) = dnR (n + 1) H := by
  funext j
  unfold upd dnR
  by_cases hj : j = n
  · subst hj
    rw [if_pos rfl, if_neg (by omega), if_pos (Nat.lt_succ_self _)]
  · rw [if_neg hj]
    by_cases hl : j < n
    · rw [if_pos hl, if_pos (by omega)]
    · rw [if_neg hl, if_neg (by omega)]
def rcF2 (n : Nat) (f H : IA) : IA := if n < 5 then cpR (72 * n) f 72 H else cpR 288 f 72 (dnR 288 H)
theorem hiR_snoc {H f : IA} {l : List SA} {a : SA} (h : hiR H l) (hl : l.length < 5) (ha : stM f a) : hiR (cpR (72 * l.length) f 72 H) (l ++ [a]) := by
  refine ⟨by rw [List.length_append]; show l.length + 1 ≤ 5; omega, fun j b hj => ?_⟩
  by_cases hjl : j < l.length
  · rw [List.getElem?_append_left hjl] at hj
    refine stM_congr (h.2 j b hj) (fun i hi => ?_)
    show _ = cpR _ _ _ _ _
    unfold cpR
    rw [if_neg (by omega)]
  · rw [List.getElem?_append_right (by omega)] at hj
    have h0 : j - l.length = 0 := by
      by_cases h0 : j - l.length = 0
      · exact h0
      · obtain ⟨k, hk⟩ : ∃ k, j - l.length = k + 1 := ⟨j - l.length - 1, by omega⟩
        rw [hk] at hj; cases hj
    rw [h0] at hj
    have e : a = b := Option.some.inj hj
    subst e
    have hjn : j = l.length := by omega
    subst hjn
    refine stM_congr ha (fun i hi => ?_)
    show _ = cpR _ _ _ _ _
    unfold cpR
    rw [if_pos (by omega), show 72 * l.length + i - 72 * l.length = i by omega]
theorem hiR_rec {H f : IA} {A : AS} (h : hiR H A.2.2.1) (ha : stM f A.1) : hiR (rcF2 A.2.2.1.length f H) (svA A) := by
  unfold rcF2 svA
  by_cases h5 : A.2.2.1.length < 5
  · rw [if_pos h5, if_pos h5]; exact hiR_snoc h h5 ha
  · rw [if_neg h5, if_neg h5]
    have hl5 := h.1
    have hl : (A.2.2.1.drop 1).length = 4 := by rw [List.length_drop]; omega
    have h2 : hiR (dnR 288 H) (A.2.2.1.drop 1) := by
      refine ⟨by omega, fun j b hj => ?_⟩
      have hj4 : j < 4 := by rw [← hl]; exact (List.getElem?_eq_some_iff.mp hj).1
      rw [List.getElem?_drop] at hj
      refine stM_congr (h.2 (1 + j) b hj) (fun i hi => ?_)
      show _ = dnR _ _ _
      unfold dnR
      rw [if_pos (by omega), show 72 * (1 + j) + i = 72 * j + i + 72 by omega]
    have h3 := hiR_snoc h2 (by omega) ha
    rw [hl] at h3
    exact h3
