theorem pcb_le (b : Nat) : pcb b ≤ 8 := fb_ct_le _ 8
theorem ush_N {n : Nat} (hn : n < 2 ^ 64) {k : Nat} (hk : k < 64) : ush (lN n) (nI k) = lN (n / 2 ^ k) := wb_shr hn hk
theorem dg8 (n : Nat) : ∃ x0 x1 x2 x3 x4 x5 x6 x7 : Nat, (x0 ≤ 8 ∧ x1 ≤ 8 ∧ x2 ≤ 8 ∧ x3 ≤ 8 ∧ x4 ≤ 8 ∧ x5 ≤ 8 ∧ x6 ≤ 8 ∧ x7 ≤ 8) ∧ dgs 8 n = x0 + 256 * x1 + 65536 * x2 + 16777216 * x3 + 4294967296 * x4 + 1099511627776 * x5 + 281474976710656 * x6 + 72057594037927936 * x7 ∧ sds 8 n = x0 + x1 + x2 + x3 + x4 + x5 + x6 + x7 := by
  refine ⟨pcb (n % 256), pcb (n / 256 % 256), pcb (n / 256 / 256 % 256), pcb (n / 256 / 256 / 256 % 256), pcb (n / 256 / 256 / 256 / 256 % 256), pcb (n / 256 / 256 / 256 / 256 / 256 % 256), pcb (n / 256 / 256 / 256 / 256 / 256 / 256 % 256), pcb (n / 256 / 256 / 256 / 256 / 256 / 256 / 256 % 256), ⟨pcb_le _, pcb_le _, pcb_le _, pcb_le _, pcb_le _, pcb_le _, pcb_le _, pcb_le _⟩, ?_, ?_⟩
  · simp only [dgs]
    generalize pcb (n % 256) = x0
    generalize pcb (n / 256 % 256) = x1
    generalize pcb (n / 256 / 256 % 256) = x2
    generalize pcb (n / 256 / 256 / 256 % 256) = x3
    generalize pcb (n / 256 / 256 / 256 / 256 % 256) = x4
    generalize pcb (n / 256 / 256 / 256 / 256 / 256 % 256) = x5
    generalize pcb (n / 256 / 256 / 256 / 256 / 256 / 256 % 256) = x6
    generalize pcb (n / 256 / 256 / 256 / 256 / 256 / 256 / 256 % 256) = x7
    clear n
    omega
  · simp only [sds]
    generalize pcb (n % 256) = x0
    generalize pcb (n / 256 % 256) = x1
    generalize pcb (n / 256 / 256 % 256) = x2
    generalize pcb (n / 256 / 256 / 256 % 256) = x3
    generalize pcb (n / 256 / 256 / 256 / 256 % 256) = x4
    generalize pcb (n / 256 / 256 / 256 / 256 / 256 % 256) = x5
    generalize pcb (n / 256 / 256 / 256 / 256 / 256 / 256 % 256) = x6
    generalize pcb (n / 256 / 256 / 256 / 256 / 256 / 256 / 256 % 256) = x7
    clear n
    omega
theorem dv_of {w Q x d : Nat} (h : w = d * Q + x) (hx : x < d) : w / d = Q := by
  rw [h, Nat.mul_add_div (by omega), Nat.div_eq_of_lt hx, Nat.add_zero]
theorem ps1 {x0 x1 x2 x3 x4 x5 x6 x7 w : Nat} (hx : x0 ≤ 8 ∧ x1 ≤ 8 ∧ x2 ≤ 8 ∧ x3 ≤ 8 ∧ x4 ≤ 8 ∧ x5 ≤ 8 ∧ x6 ≤ 8 ∧ x7 ≤ 8) (hd : w = x0 + 256 * x1 + 65536 * x2 + 16777216 * x3 + 4294967296 * x4 + 1099511627776 * x5 + 281474976710656 * x6 + 72057594037927936 * x7) :
    w / 256 = x1 + 256 * x2 + 65536 * x3 + 16777216 * x4 + 4294967296 * x5 + 1099511627776 * x6 + 281474976710656 * x7 ∧ w < 2 ^ 64 :=
  ⟨dv_of (x := x0) (by rw [hd]; omega) (by omega), by omega⟩
theorem ps2 {y0 y1 y2 y3 y4 y5 y6 y7 A : Nat} (hy : y0 ≤ 16 ∧ y1 ≤ 16 ∧ y2 ≤ 16 ∧ y3 ≤ 16 ∧ y4 ≤ 16 ∧ y5 ≤ 16 ∧ y6 ≤ 16 ∧ y7 ≤ 16) (hA : A = y0 + 256 * y1 + 65536 * y2 + 16777216 * y3 + 4294967296 * y4 + 1099511627776 * y5 + 281474976710656 * y6 + 72057594037927936 * y7) :
    A / 65536 = y2 + 256 * y3 + 65536 * y4 + 16777216 * y5 + 4294967296 * y6 + 1099511627776 * y7 ∧ A < 2 ^ 64 :=
  ⟨dv_of (x := y0 + 256 * y1) (by rw [hA]; omega) (by omega), by omega⟩
theorem ps3 {y0 y1 y2 y3 y4 y5 y6 y7 B : Nat} (hy : y0 ≤ 32 ∧ y1 ≤ 32 ∧ y2 ≤ 32 ∧ y3 ≤ 32 ∧ y4 ≤ 32 ∧ y5 ≤ 32 ∧ y6 ≤ 32 ∧ y7 ≤ 32) (hB : B = y0 + 256 * y1 + 65536 * y2 + 16777216 * y3 + 4294967296 * y4 + 1099511627776 * y5 + 281474976710656 * y6 + 72057594037927936 * y7) :
    B / 4294967296 = y4 + 256 * y5 + 65536 * y6 + 16777216 * y7 ∧ B < 2 ^ 64 :=
  ⟨dv_of (x := y0 + 256 * y1 + 65536 * y2 + 16777216 * y3) (by rw [hB]; omega) (by omega), by omega⟩
theorem ps4 {x0 x1 x2 x3 x4 x5 x6 x7 : Nat} (hx : x0 + x1 + x2 + x3 + x4 + x5 + x6 + x7 ≤ 64) :
    ((x0 + x1 + (x2 + x3)) + 256 * (x1 + x2 + (x3 + x4)) + 65536 * (x2 + x3 + (x4 + x5)) + 16777216 * (x3 + x4 + (x5 + x6)) + 4294967296 * (x4 + x5 + (x6 + x7)) + 1099511627776 * (x5 + x6 + x7) + 281474976710656 * (x6 + x7) + 72057594037927936 * x7 + (x4 + x5 + (x6 + x7) + 256 * (x5 + x6 + x7) + 65536 * (x6 + x7) + 16777216 * x7)) % 128 = x0 + x1 + x2 + x3 + x4 + x5 + x6 + x7 := by
  have : ∀ r W : Nat, r < 128 → (r + 128 * W) % 128 = r := fun r W h => by omega
  rw [← this (x0 + x1 + x2 + x3 + x4 + x5 + x6 + x7) (2 * (x1 + x2 + (x3 + x4)) + 512 * (x2 + x3 + (x4 + x5)) + 131072 * (x3 + x4 + (x5 + x6)) + 33554432 * (x4 + x5 + (x6 + x7)) + 8589934592 * (x5 + x6 + x7) + 2199023255552 * (x6 + x7) + 562949953421312 * x7 + 2 * (x5 + x6 + x7) + 512 * (x6 + x7) + 131072 * x7) (by omega)]
  congr 1
  omega
theorem k85 : (6148914691236517205 : Int64) = lN (rep 8 85) := by decide +kernel
theorem k51 : (3689348814741910323 : Int64) = lN (rep 8 51) := by decide +kernel
theorem k15 : (1085102592571150095 : Int64) = lN (rep 8 15) := by decide +kernel
theorem r85 : rep 8 85 < 2 ^ 64 := by decide +kernel
theorem r51 : rep 8 51 < 2 ^ 64 := by decide +kernel
theorem r15 : rep 8 15 < 2 ^ 64 := by decide +kernel
theorem r68 : rep 8 68 = 4919131752989213764 := by decide +kernel
