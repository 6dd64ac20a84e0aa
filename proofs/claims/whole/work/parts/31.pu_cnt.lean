/-! PURE ROWS 12: how many bits -/
/-- the places of the bits below n -/
def bs (m n : Nat) : List Nat := (List.range n).filter (fun u => m.testBit u)
def sw_a (m : Nat) : Nat := m - (m / 2 &&& 1431655765)
def sw_b (m : Nat) : Nat := (m &&& 858993459) + (m / 4 &&& 858993459)
def sw_c (m : Nat) : Nat := (m + m / 16) &&& 252645135
def sw_d (m : Nat) : Nat := m + m / 256
def sw_e (m : Nat) : Nat := (m + m / 65536) &&& 63
def sw (m : Nat) : Nat := sw_e (sw_d (sw_c (sw_b (sw_a m))))
def pc : Nat → Nat → Nat
  | 0, _ => 0
  | n + 1, m => m % 2 + pc n (m / 2)
def sw_t (c : Nat) : Bool := (List.range 16).all (fun h => (List.range 256).all (fun x => Nat.beq (sw (256 * (16 * c + h) + x)) (pc 8 (16 * c + h) + pc 8 x)))
theorem sw_t0 : sw_t 0 = true := by decide +kernel
theorem sw_t1 : sw_t 1 = true := by decide +kernel
theorem sw_t2 : sw_t 2 = true := by decide +kernel
theorem sw_t3 : sw_t 3 = true := by decide +kernel
theorem sw_t4 : sw_t 4 = true := by decide +kernel
theorem sw_t5 : sw_t 5 = true := by decide +kernel
theorem sw_t6 : sw_t 6 = true := by decide +kernel
theorem sw_t7 : sw_t 7 = true := by decide +kernel
theorem sw_t8 : sw_t 8 = true := by decide +kernel
theorem sw_t9 : sw_t 9 = true := by decide +kernel
theorem sw_t10 : sw_t 10 = true := by decide +kernel
theorem sw_t11 : sw_t 11 = true := by decide +kernel
theorem sw_t12 : sw_t 12 = true := by decide +kernel
theorem sw_t13 : sw_t 13 = true := by decide +kernel
theorem sw_t14 : sw_t 14 = true := by decide +kernel
theorem sw_t15 : sw_t 15 = true := by decide +kernel
