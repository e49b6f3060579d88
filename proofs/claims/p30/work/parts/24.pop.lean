theorem p256 : (256 : Nat) ^ 8 = 2 ^ 64 := by decide +kernel
theorem d732 : 2 ^ 7 ∣ 2 ^ 32 := by decide +kernel
theorem po_sum {w r : Nat} (d : ∃ x0 x1 x2 x3 x4 x5 x6 x7 : Nat, (x0 ≤ 8 ∧ x1 ≤ 8 ∧ x2 ≤ 8 ∧ x3 ≤ 8 ∧ x4 ≤ 8 ∧ x5 ≤ 8 ∧ x6 ≤ 8 ∧ x7 ≤ 8) ∧ w = x0 + 256 * x1 + 65536 * x2 + 16777216 * x3 + 4294967296 * x4 + 1099511627776 * x5 + 281474976710656 * x6 + 72057594037927936 * x7 ∧ r = x0 + x1 + x2 + x3 + x4 + x5 + x6 + x7) :
    ∃ A B C : Nat, w < 2 ^ 64 ∧ A = w + w / 256 ∧ A < 2 ^ 64 ∧ B = A + A / 65536 ∧ B < 2 ^ 64 ∧ C = B + B / 4294967296 ∧ C % 128 = r := by
  obtain ⟨x0, x1, x2, x3, x4, x5, x6, x7, hx, hd, hs⟩ := d
  have g1 : x0 + x1 ≤ 16 ∧ x1 + x2 ≤ 16 ∧ x2 + x3 ≤ 16 ∧ x3 + x4 ≤ 16 ∧ x4 + x5 ≤ 16 ∧ x5 + x6 ≤ 16 ∧ x6 + x7 ≤ 16 ∧ x7 ≤ 16 := by clear hd hs; omega
  have g2 : x0 + x1 + (x2 + x3) ≤ 32 ∧ x1 + x2 + (x3 + x4) ≤ 32 ∧ x2 + x3 + (x4 + x5) ≤ 32 ∧ x3 + x4 + (x5 + x6) ≤ 32 ∧ x4 + x5 + (x6 + x7) ≤ 32 ∧ x5 + x6 + x7 ≤ 32 ∧ x6 + x7 ≤ 32 ∧ x7 ≤ 32 := by clear hd hs g1; omega
  have g3 : x0 + x1 + x2 + x3 + x4 + x5 + x6 + x7 < 128 := by clear hd hs g1 g2; omega
  obtain ⟨s1, s2⟩ := ps1 hx hd
  obtain ⟨A, hA⟩ : ∃ A, A = (x0 + x1) + 256 * (x1 + x2) + 65536 * (x2 + x3) + 16777216 * (x3 + x4) + 4294967296 * (x4 + x5) + 1099511627776 * (x5 + x6) + 281474976710656 * (x6 + x7) + 72057594037927936 * x7 := ⟨_, rfl⟩
  have hA2 : A = w + w / 256 := by rw [s1, hd, hA]; clear s1 s2 hA hd hs g1 g2 g3 hx; omega
  obtain ⟨s3, s4⟩ := ps2 g1 hA
  obtain ⟨B, hB⟩ : ∃ B, B = (x0 + x1 + (x2 + x3)) + 256 * (x1 + x2 + (x3 + x4)) + 65536 * (x2 + x3 + (x4 + x5)) + 16777216 * (x3 + x4 + (x5 + x6)) + 4294967296 * (x4 + x5 + (x6 + x7)) + 1099511627776 * (x5 + x6 + x7) + 281474976710656 * (x6 + x7) + 72057594037927936 * x7 := ⟨_, rfl⟩
  have hB2 : B = A + A / 65536 := by rw [s3, hB, hA]; clear s1 s2 s3 s4 hA2 hA hB hd hs g1 g2 g3 hx; omega
  obtain ⟨s5, s6⟩ := ps3 g2 hB
  refine ⟨A, B, B + B / 4294967296, s2, hA2, s4, hB2, s6, rfl, ?_⟩
  have hW : B + B / 4294967296 = r + 128 * (2 * (x1 + x2 + (x3 + x4)) + 512 * (x2 + x3 + (x4 + x5)) + 131072 * (x3 + x4 + (x5 + x6)) + 33554432 * (x4 + x5 + (x6 + x7)) + 8589934592 * (x5 + x6 + x7) + 2199023255552 * (x6 + x7) + 562949953421312 * x7 + 2 * (x5 + x6 + x7) + 512 * (x6 + x7) + 131072 * x7) := by
    rw [s5, hB, hs]; clear s1 s2 s3 s4 s5 s6 hA hA2 hB hB2 hd hs g1 g2 g3 hx; omega
  rw [hW, Nat.add_mul_mod_self_left, Nat.mod_eq_of_lt (by rw [hs]; exact g3)]
theorem popF_ct (x : Int64) : popF x = nI (fb_ct (bq x) 64) := by
  obtain ⟨n, hn, rfl⟩ := wb_of x
  have h0 : fb_ct (bq (lN n)) 64 = sds 8 n := by
    rw [← sds_ct 8 n]
    apply fb_ct_cong
    intro i hi
    show (BitVec.ofNat 64 n).getLsbD i = n.testBit i
    rw [BitVec.getLsbD_ofNat]
    simp [hi]
  rw [h0]
  obtain ⟨a1, a2, a3⟩ := q_all 8 n (by rw [p256]; exact hn)
  have b1 : (n / 2 &&& rep 8 85) ≤ n / 2 := Nat.and_le_left
  have e1 : po1 (lN n) = lN (q1 8 n) := by
    unfold po1
    rw [show ush (lN n) 1 = lN (n / 2 ^ 1) from ush_N hn (k := 1) (by decide), k85, wb_and (by omega) r85]
    unfold q1
    exact lN_sub (Nat.le_trans b1 (Nat.div_le_self n 2))
  have l1 : q1 8 n < 2 ^ 64 := Nat.lt_of_le_of_lt (Nat.sub_le _ _) hn
  have e2 : po2 (lN (q1 8 n)) = lN (q2 8 (q1 8 n)) := by
    generalize q1 8 n = m at l1
    unfold po2
    rw [show ush (lN m) 2 = lN (m / 2 ^ 2) from ush_N l1 (k := 2) (by decide), k51, wb_and l1 r51, wb_and (by omega) r51, lN_add]
    rfl
  have l2 : q2 8 (q1 8 n) ≤ 4919131752989213764 := by rw [← r68]; exact a3
  have e3 : po3 (lN (q2 8 (q1 8 n))) = lN (dgs 8 n) := by
    rw [← a1]
    generalize q2 8 (q1 8 n) = m at l2
    unfold po3
    rw [show ush (lN m) 4 = lN (m / 2 ^ 4) from ush_N (by omega) (k := 4) (by decide), k15, lN_add, wb_and (by omega) r15]
    rfl
  unfold popF
  rw [e1, e2, e3]
  obtain ⟨A, B, C, h1, h2, h3, h4, h5, h6, h7⟩ := po_sum (dg8 n)
  clear e1 e2 e3 a1 a2 a3 b1 l1 l2
  generalize dgs 8 n = w at h1 h2
  generalize sds 8 n = r at h7
  have f4 : po4 (lN w) = lN A := by
    unfold po4
    rw [show ush (lN w) 8 = lN (w / 2 ^ 8) from ush_N h1 (k := 8) (by decide), lN_add, h2]
  have f5 : po5 (lN A) = lN B := by
    unfold po5
    rw [show ush (lN A) 16 = lN (A / 2 ^ 16) from ush_N h3 (k := 16) (by decide), lN_add, h4]
  have f6 : po6 (lN B) = lN C := by
    unfold po6
    rw [show ush (lN B) 32 = lN (B / 2 ^ 32) from ush_N h5 (k := 32) (by decide), lN_add, h6]
  rw [f4, f5, f6, lN_i, pk_and _ (m := 127) 7 (by decide)]
  have : (nI C).toBitVec.toNat % 2 ^ 7 = r := by
    show (BitVec.ofNat 32 C).toNat % 2 ^ 7 = r
    rw [BitVec.toNat_ofNat, Nat.mod_mod_of_dvd _ d732]
    exact h7
  rw [this]
