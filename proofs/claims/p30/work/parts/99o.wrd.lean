/-! the law's words, and its single tests and assignments (written by gen_wd.py) -/
def wd1 (p : Nat) : Nat := [67, 43, 42, 41, 66, 46, 65, 40].getD p 0
theorem wd1_rd : ∀ p, p < 8 → ((2900650496696658755 : Int64) >>> ((nI (8 * p)).toInt64 &&& 63)) &&& 255 = lN (wd1 p) := by decide +kernel
theorem wd1_b : ∀ p, p < 8 → wd1 p < 256 := by decide +kernel
theorem wd1_ac : ∀ a, a < 4 → ∀ b, b < 4 → ∀ c, c < 4 → ∀ k, k < 8 → (lN (naN (fun p => su a b c (wd1 p)) k) <<< ((8 : Int32).toInt64 &&& 63)) ||| lN (su a b c (wd1 (7 - k))) = lN (naN (fun p => su a b c (wd1 p)) (k + 1)) := by decide +kernel
theorem wd1_rr : ∀ a, a < 4 → ∀ b, b < 4 → ∀ c, c < 4 → ∀ p, p < 8 → ((lN (naN (fun p => su a b c (wd1 p)) 8) >>> ((nI (8 * p)).toInt64 &&& 63)) &&& 255).toInt32 = nI (su a b c (wd1 p)) := by decide +kernel
theorem wd1_lt : ∀ a, a < 4 → ∀ b, b < 4 → ∀ c, c < 4 → ∀ p, p < 8 → su a b c (wd1 p) < 128 := by decide +kernel
theorem wd1_t : ∀ a, a < 4 → ∀ b, b < 4 → ∀ c, c < 4 → tbL (fun p => su a b c (wd1 p)) 8 = [40, 112 + a, 46, 112 + b, 41, 42, 43, 112 + c] := by decide +kernel
def wd2 (p : Nat) : Nat := [67, 46, 66, 43, 65, 0, 0, 0].getD p 0
theorem wd2_rd : ∀ p, p < 8 → ((279898631747 : Int64) >>> ((nI (8 * p)).toInt64 &&& 63)) &&& 255 = lN (wd2 p) := by decide +kernel
theorem wd2_b : ∀ p, p < 8 → wd2 p < 256 := by decide +kernel
theorem wd2_ac : ∀ a, a < 4 → ∀ b, b < 4 → ∀ c, c < 4 → ∀ k, k < 8 → (lN (naN (fun p => su a b c (wd2 p)) k) <<< ((8 : Int32).toInt64 &&& 63)) ||| lN (su a b c (wd2 (7 - k))) = lN (naN (fun p => su a b c (wd2 p)) (k + 1)) := by decide +kernel
theorem wd2_rr : ∀ a, a < 4 → ∀ b, b < 4 → ∀ c, c < 4 → ∀ p, p < 8 → ((lN (naN (fun p => su a b c (wd2 p)) 8) >>> ((nI (8 * p)).toInt64 &&& 63)) &&& 255).toInt32 = nI (su a b c (wd2 p)) := by decide +kernel
theorem wd2_lt : ∀ a, a < 4 → ∀ b, b < 4 → ∀ c, c < 4 → ∀ p, p < 8 → su a b c (wd2 p) < 128 := by decide +kernel
theorem wd2_t : ∀ a, a < 4 → ∀ b, b < 4 → ∀ c, c < 4 → tbL (fun p => su a b c (wd2 p)) 8 = [112 + a, 43, 112 + b, 46, 112 + c] := by decide +kernel
def wd3 (p : Nat) : Nat := [93, 67, 124, 66, 63, 65, 91, 0].getD p 0
theorem wd3_rd : ∀ p, p < 8 → ((25685962834854749 : Int64) >>> ((nI (8 * p)).toInt64 &&& 63)) &&& 255 = lN (wd3 p) := by decide +kernel
theorem wd3_b : ∀ p, p < 8 → wd3 p < 256 := by decide +kernel
theorem wd3_ac : ∀ a, a < 4 → ∀ b, b < 4 → ∀ c, c < 4 → ∀ k, k < 8 → (lN (naN (fun p => su a b c (wd3 p)) k) <<< ((8 : Int32).toInt64 &&& 63)) ||| lN (su a b c (wd3 (7 - k))) = lN (naN (fun p => su a b c (wd3 p)) (k + 1)) := by decide +kernel
theorem wd3_rr : ∀ a, a < 4 → ∀ b, b < 4 → ∀ c, c < 4 → ∀ p, p < 8 → ((lN (naN (fun p => su a b c (wd3 p)) 8) >>> ((nI (8 * p)).toInt64 &&& 63)) &&& 255).toInt32 = nI (su a b c (wd3 p)) := by decide +kernel
theorem wd3_lt : ∀ a, a < 4 → ∀ b, b < 4 → ∀ c, c < 4 → ∀ p, p < 8 → su a b c (wd3 p) < 128 := by decide +kernel
theorem wd3_t : ∀ a, a < 4 → ∀ b, b < 4 → ∀ c, c < 4 → tbL (fun p => su a b c (wd3 p)) 8 = [91, 112 + a, 63, 112 + b, 124, 112 + c, 93] := by decide +kernel
def tsB (f o v p : Nat) : Nat := if p = 0 then 48 + v else if p = 1 then (if o = 0 then 61 else 58) else if p = 2 then 120 + f else 0
def tsV (f o v : Nat) : Int64 := (((((120 : Int32) + nI f).toInt64 <<< ((8 : Int32).toInt64 &&& 63)) ||| (if o = 0 then (61 : Int32) else 58).toInt64) <<< ((8 : Int32).toInt64 &&& 63)) ||| ((48 : Int32) + nI v).toInt64
theorem ts_rd : ∀ f, f < 3 → ∀ o, o < 2 → ∀ v, v < 4 → ∀ p, p < 8 → ((tsV f o v >>> ((nI (8 * p)).toInt64 &&& 63)) &&& 255).toInt32 = nI (tsB f o v p) := by decide +kernel
theorem ts_lt : ∀ f, f < 3 → ∀ o, o < 2 → ∀ v, v < 4 → ∀ p, p < 8 → tsB f o v p < 128 := by decide +kernel
theorem ts_t : ∀ f, f < 3 → ∀ o, o < 2 → ∀ v, v < 4 → tbL (tsB f o v) 8 = [120 + f, if o = 0 then 61 else 58, 48 + v] := by decide +kernel
