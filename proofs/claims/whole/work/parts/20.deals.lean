/-! the deals, dealt out in three ways: by cards (the class), by subsets (the reference), by hands (the class); all three give the same deals -/
def dq_pc : Nat → Nat → Nat
  | 0, _ => 0
  | n + 1, x => x % 2 + dq_pc n (x / 2)
abbrev dq_H : Type := Nat × Nat × Nat × Nat
def dq_h (h : dq_H) (p : Nat) : Nat := match p with
  | 0 => h.1
  | 1 => h.2.1
  | 2 => h.2.2.1
  | _ => h.2.2.2
def dq_set (h : dq_H) (p v : Nat) : dq_H := match p with
  | 0 => (v, h.2.1, h.2.2.1, h.2.2.2)
  | 1 => (h.1, v, h.2.2.1, h.2.2.2)
  | 2 => (h.1, h.2.1, v, h.2.2.2)
  | _ => (h.1, h.2.1, h.2.2.1, v)
def dq_code (h : dq_H) : Nat := h.1 + 512 * (h.2.1 + 512 * (h.2.2.1 + 512 * h.2.2.2))
def dq_kind (k : Nat) : Nat := 7 * 8 ^ k
def dq_mask (t : Nat) : Nat := 2 ^ (t / 9) + 2 ^ (3 + t / 3 % 3) + 2 ^ (6 + t % 3)
/-- card by card -/
def dq_room (h : dq_H) (card place : Nat) : Bool :=
  if place == 3 then dq_h h 3 &&& dq_kind (card / 3) == 0
  else !(card % 3 == 2 && dq_h h 3 &&& dq_kind (card / 3) == 0) && Nat.blt (dq_pc 9 (dq_h h place)) 2
def dq_then (t card place : Nat) : Nat := if place == 3 then 3 * t + card % 3 else t
abbrev dq_L : Type := Nat × dq_H × List Nat
def dq_gen : Nat → Nat → Nat → dq_H → List Nat → List dq_L
  | 0, _, t, h, q => [(t, h, q)]
  | n + 1, c, t, h, q =>
    (if dq_room h c 0 then dq_gen n (c + 1) (dq_then t c 0) (dq_set h 0 (dq_h h 0 ||| 2 ^ c)) (q ++ [0]) else []) ++
    ((if dq_room h c 1 then dq_gen n (c + 1) (dq_then t c 1) (dq_set h 1 (dq_h h 1 ||| 2 ^ c)) (q ++ [1]) else []) ++
    ((if dq_room h c 2 then dq_gen n (c + 1) (dq_then t c 2) (dq_set h 2 (dq_h h 2 ||| 2 ^ c)) (q ++ [2]) else []) ++
    (if dq_room h c 3 then dq_gen n (c + 1) (dq_then t c 3) (dq_set h 3 (dq_h h 3 ||| 2 ^ c)) (q ++ [3]) else [])))
def dq_1 : List dq_L := dq_gen 9 0 0 (0, 0, 0, 0) []
/-- by subsets: all x, x - 1 & r, .. down to 0 -/
def dq_sub (r : Nat) : Nat → Nat → List Nat
  | 0, _ => []
  | n + 1, x => if x == 0 then [] else x :: dq_sub r n ((x - 1) &&& r)
def dq_two (r one : Nat) : List dq_H := if dq_pc 9 one == 2 then (dq_sub (r - one) 64 (r - one)).map (fun two => (one, two, r - one - two, 511 - r)) else []
def dq_ones (r : Nat) : List dq_H := (dq_sub r 64 r).flatMap (dq_two r)
def dq_2of (t : Nat) : List dq_H := (dq_ones (511 - dq_mask t)).filter (fun h => dq_pc 9 h.2.1 == 2)
def dq_2 : List (Nat × dq_H) := (List.range 27).flatMap (fun t => (dq_2of t).map (fun h => (t, h)))
/-- by hands -/
def dq_prs : List Nat := (List.range 9).flatMap (fun f => (List.range' (f + 1) (8 - f)).map (fun s => 2 ^ f + 2 ^ s))
def dq_fit (free : Nat) : List Nat := dq_prs.filter (fun x => free &&& x == x)
def dq_3of (t : Nat) : List dq_H := (dq_fit (511 - dq_mask t)).flatMap (fun a => (dq_fit (511 - dq_mask t - a)).map (fun b => (a, b, 511 - dq_mask t - a - b, dq_mask t)))
def dq_3 : List dq_H := (List.range 27).flatMap dq_3of
/-- the deals, as numbers -/
def dq_D : List Nat := dq_2.map (fun x => dq_code x.2)
def dq_hn (x p : Nat) : Nat := x / 512 ^ p % 512
def dq_sort : Nat → List Nat → List Nat
  | 0, l => l
  | b + 1, l => dq_sort b (l.filter (fun x => x.testBit b)) ++ dq_sort b (l.filter (fun x => !x.testBit b))
theorem dq_sort_perm : ∀ (b : Nat) (l : List Nat), (dq_sort b l).Perm l := by
  intro b
  induction b with
  | zero => intro l; exact List.Perm.refl l
  | succ b ih =>
    intro l
    exact ((ih _).append (ih _)).trans (List.filter_append_perm (fun x => Nat.testBit x b) l)
theorem dq_perm_of {b : Nat} {l m : List Nat} (h : dq_sort b l = dq_sort b m) : l.Perm m := (dq_sort_perm b l).symm.trans (h ▸ dq_sort_perm b m)
set_option maxRecDepth 100000 in
theorem dq_eq1 : dq_sort 36 (dq_1.map (fun x => dq_code x.2.1)) = dq_sort 36 dq_D := by decide +kernel
set_option maxRecDepth 100000 in
theorem dq_eq3 : dq_sort 36 (dq_3.map dq_code) = dq_sort 36 dq_D := by decide +kernel
theorem dq_perm1 : (dq_1.map (fun x => dq_code x.2.1)).Perm dq_D := dq_perm_of dq_eq1
theorem dq_perm3 : (dq_3.map dq_code).Perm dq_D := dq_perm_of dq_eq3
def dq_ok1 (x : dq_L) : Bool := (List.range 4).all (fun p => dq_hn (dq_code x.2.1) p == dq_h x.2.1 p) && Nat.blt x.1 27 && dq_h x.2.1 3 == dq_mask x.1 && x.2.2.length == 9 &&
  (List.range 9).all (fun c => (List.range 4).all (fun p => (x.2.2.getD c 0 == p) == (dq_h x.2.1 p).testBit c))
set_option maxRecDepth 100000 in
theorem dq_all1 : dq_1.all dq_ok1 = true := by decide +kernel
def dq_ok2 (x : Nat × dq_H) : Bool := (List.range 4).all (fun p => dq_hn (dq_code x.2) p == dq_h x.2 p) && x.2.2.2.2 == dq_mask x.1
set_option maxRecDepth 100000 in
theorem dq_all2 : dq_2.all dq_ok2 = true := by decide +kernel
def dq_ok3 (x : dq_H) : Bool := (List.range 4).all (fun p => dq_hn (dq_code x) p == dq_h x p)
set_option maxRecDepth 100000 in
theorem dq_all3 : dq_3.all dq_ok3 = true := by decide +kernel
def dq_tr (x : Nat) : Nat := (List.range 27).findIdx (fun t => dq_mask t == dq_hn x 3)
def dq_okD (x : Nat) : Bool := (List.range 3).all (fun p => dq_prs.contains (dq_hn x p)) && Nat.blt (dq_tr x) 27 && dq_hn x 3 == dq_mask (dq_tr x) &&
  (List.range 9).all (fun c => (List.range 4).countP (fun p => (dq_hn x p).testBit c) == 1)
set_option maxRecDepth 100000 in
theorem dq_allD : dq_D.all dq_okD = true := by decide +kernel
set_option maxRecDepth 100000 in
theorem dq_len : dq_D.length = 2430 := by decide +kernel
