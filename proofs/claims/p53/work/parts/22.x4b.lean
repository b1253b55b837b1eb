/-! the reader of texts: digits; a sign taken -/
section X4B
variable {d : Nat} {s : RS} {c : Nat}
theorem ble_f {a b : Nat} (h : b < a) : Nat.ble a b = false := by
  cases hb : Nat.ble a b with
  | false => rfl
  | true => have := Nat.le_of_ble_eq_true hb; omega
end X4B
