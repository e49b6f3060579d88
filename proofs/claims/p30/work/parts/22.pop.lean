/-! how many bits: Long.bitCount -/
def ush (x : Int64) (k : Int32) : Int64 := (x.toUInt64 >>> (k.toInt64.toUInt64 &&& Int64.toUInt64 63)).toInt64
def po1 (x : Int64) : Int64 := x - (ush x 1 &&& (6148914691236517205 : Int64))
def po2 (x : Int64) : Int64 := (x &&& (3689348814741910323 : Int64)) + (ush x 2 &&& (3689348814741910323 : Int64))
def po3 (x : Int64) : Int64 := (x + ush x 4) &&& (1085102592571150095 : Int64)
def po4 (x : Int64) : Int64 := x + ush x 8
def po5 (x : Int64) : Int64 := x + ush x 16
def po6 (x : Int64) : Int64 := x + ush x 32
def popF (x : Int64) : Int32 := (po6 (po5 (po4 (po3 (po2 (po1 x)))))).toInt32 &&& 127
theorem bitCount_eq (x : Int64) (h : Hp) : f_J13_bitCount_95d88 x h = some (popF x, h) := rfl
def rep : Nat → Nat → Nat
  | 0, _ => 0
  | k + 1, c => 256 * rep k c + c
def q1 (k n : Nat) : Nat := n - (n / 2 &&& rep k 85)
def q2 (k m : Nat) : Nat := (m &&& rep k 51) + (m / 4 &&& rep k 51)
def q3 (k m : Nat) : Nat := (m + m / 16) &&& rep k 15
def qb1 (b : Nat) : Nat := b - (b / 2 &&& 85)
def qb2 (c : Nat) : Nat := (c &&& 51) + (c / 4 &&& 51)
def pcb (b : Nat) : Nat := fb_ct (fun i => b.testBit i) 8
def dgs : Nat → Nat → Nat
  | 0, _ => 0
  | k + 1, n => 256 * dgs k (n / 256) + pcb (n % 256)
def sds : Nat → Nat → Nat
  | 0, _ => 0
  | k + 1, n => pcb (n % 256) + sds k (n / 256)
theorem tb_sp (a : Nat) {b : Nat} (hb : b < 256) (i : Nat) : (256 * a + b).testBit i = if i < 8 then b.testBit i else a.testBit (i - 8) := Nat.testBit_two_pow_mul_add a (i := 8) hb i
theorem and_sp (a c : Nat) {b d : Nat} (hb : b < 256) (hd : d < 256) : (256 * a + b) &&& (256 * c + d) = 256 * (a &&& c) + (b &&& d) := by
  apply Nat.eq_of_testBit_eq
  intro i
  rw [Nat.testBit_and, tb_sp a hb, tb_sp c hd, tb_sp (a &&& c) (Nat.lt_of_le_of_lt Nat.and_le_left hb)]
  by_cases hi : i < 8
  · rw [if_pos hi, if_pos hi, if_pos hi, Nat.testBit_and]
  · rw [if_neg hi, if_neg hi, if_neg hi, Nat.testBit_and]
theorem q_e1 : ∀ t, t < 2 → ∀ b, b < 256 → (t * 128 + b / 2) &&& 85 = b / 2 &&& 85 := by decide +kernel
theorem q_e2 : ∀ t, t < 4 → ∀ b, b < 256 → (t * 64 + b / 4) &&& 51 = b / 4 &&& 51 := by decide +kernel
theorem q_e3 : ∀ b, b < 256 → qb1 b < 256 ∧ qb2 (qb1 b) % 16 ≤ 4 ∧ qb2 (qb1 b) / 16 ≤ 4 ∧ (qb2 (qb1 b) + qb2 (qb1 b) / 16) % 16 = pcb b := by decide +kernel
theorem q_all : ∀ k n, n < 256 ^ k → q3 k (q2 k (q1 k n)) = dgs k n ∧ q2 k (q1 k n) % 16 ≤ 4 ∧ q2 k (q1 k n) ≤ rep k 68 := by
  intro k
  induction k with
  | zero =>
    intro n hn
    have : n = 0 := by simpa using hn
    subst this
    decide
  | succ k ih =>
    intro n hn
    have hh : n / 256 < 256 ^ k := by rw [Nat.pow_succ] at hn; exact Nat.div_lt_of_lt_mul (by rw [Nat.mul_comm]; exact hn)
    obtain ⟨i1, i2, i3⟩ := ih (n / 256) hh
    have hb : n % 256 < 256 := Nat.mod_lt _ (by decide)
    obtain ⟨e1, e2, e3, e4⟩ := q_e3 _ hb
    have s1 : q1 (k + 1) n = 256 * q1 k (n / 256) + qb1 (n % 256) := by
      unfold q1 qb1
      have a1 : n / 2 = 256 * (n / 256 / 2) + (n / 256 % 2 * 128 + n % 256 / 2) := by omega
      have a2 : n / 256 % 2 * 128 + n % 256 / 2 < 256 := by omega
      have a3 : n / 2 &&& rep (k + 1) 85 = 256 * (n / 256 / 2 &&& rep k 85) + (n % 256 / 2 &&& 85) := by
        rw [show rep (k + 1) 85 = 256 * rep k 85 + 85 from rfl, a1, and_sp _ _ a2 (by decide), q_e1 _ (by omega) _ hb]
      have a4 : (n / 256 / 2 &&& rep k 85) ≤ n / 256 / 2 := Nat.and_le_left
      have a5 : (n % 256 / 2 &&& 85) ≤ n % 256 / 2 := Nat.and_le_left
      rw [a3]
      generalize (n / 256 / 2 &&& rep k 85) = u at a4
      generalize (n % 256 / 2 &&& 85) = w at a5
      omega
    have s2 : q2 (k + 1) (q1 (k + 1) n) = 256 * q2 k (q1 k (n / 256)) + qb2 (qb1 (n % 256)) := by
      rw [s1]
      generalize q1 k (n / 256) = m
      generalize qb1 (n % 256) = c at e1
      unfold q2 qb2
      have a1 : (256 * m + c) / 4 = 256 * (m / 4) + (m % 4 * 64 + c / 4) := by omega
      rw [show rep (k + 1) 51 = 256 * rep k 51 + 51 from rfl, and_sp m _ e1 (by decide), a1, and_sp (m / 4) _ (by omega) (by decide), q_e2 _ (by omega) _ e1]
      omega
    refine ⟨?_, by rw [s2, show 256 * q2 k (q1 k (n / 256)) + qb2 (qb1 (n % 256)) = 16 * (16 * q2 k (q1 k (n / 256))) + qb2 (qb1 (n % 256)) by omega, Nat.mul_add_mod]; exact e2, ?_⟩
    · rw [s2]
      show _ = 256 * dgs k (n / 256) + pcb (n % 256)
      rw [← i1, ← e4]
      generalize q2 k (q1 k (n / 256)) = M at i2
      generalize qb2 (qb1 (n % 256)) = C at e2 e3
      unfold q3
      have a1 : 256 * M + C + (256 * M + C) / 16 = 256 * (M + M / 16) + (C + C / 16 + 16 * (M % 16)) := by omega
      have a2 : (C + C / 16 + 16 * (M % 16)) &&& 15 = (C + C / 16) % 16 := by
        rw [show (15 : Nat) = 2 ^ 4 - 1 from rfl, Nat.and_two_pow_sub_one_eq_mod]
        omega
      rw [show rep (k + 1) 15 = 256 * rep k 15 + 15 from rfl, a1, and_sp _ _ (by omega) (by decide), a2]
    · rw [s2]
      show _ ≤ 256 * rep k 68 + 68
      omega
theorem sds_ct : ∀ k n, fb_ct (fun i => n.testBit i) (8 * k) = sds k n := by
  intro k
  induction k with
  | zero => intro n; rfl
  | succ k ih =>
    intro n
    rw [show 8 * (k + 1) = 8 + 8 * k by omega, fb_ct_split]
    show _ = pcb (n % 256) + sds k (n / 256)
    rw [← ih (n / 256)]
    unfold pcb
    congr 1
    · apply fb_ct_cong
      intro i hi
      rw [show (256 : Nat) = 2 ^ 8 from rfl, Nat.testBit_mod_two_pow]
      simp [hi]
    · apply fb_ct_cong
      intro i hi
      show n.testBit (8 + i) = (n / 256).testBit i
      rw [show (256 : Nat) = 2 ^ 8 from rfl, Nat.testBit_div_two_pow, Nat.add_comm]
