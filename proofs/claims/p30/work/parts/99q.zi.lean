/-! THE START: what is laid so far: n cells, the pointers D that are put, the cells W that may hold something, the policies Y that hold the constant 1 -/
def Zi (L : Nat) (xs : Nat → Int32) (n t : Nat) (D : List (Nat × Nat)) (c : Nat) (W Y : List Nat) (h : Hp) : Prop := gN h = n ∧ gT h = t ∧ (∀ a, 1 ≤ a → a ≤ n → gS h a = SS a) ∧ (∀ e ∈ D, e.1 ≤ n ∧ e.1 ≠ 6 ∧ gP h e.1 e.2 = some (PP e.1 e.2)) ∧ (∀ i, i < c → 6 ≤ n ∧ gP h 6 i = some (7 + 3 * i)) ∧ (∀ a k, 1 ≤ a → a ≤ n → a ∉ W → gI h a k = 0) ∧ (∀ p ∈ Y, p + 2 ≤ n ∧ PolI h p [16] true) ∧ gS h 0 = (0, L) ∧ gI h 0 = xs
section INI
variable {L : Nat} {xs : Nat → Int32} {n t c : Nat} {D : List (Nat × Nat)} {W Y : List Nat} {h : Hp}
theorem Zi.o (z : Zi L xs n t D c W Y h) {a ci : Nat} (e : (SS a).1 = ci) (h1 : 1 ≤ a) (h2 : a ≤ n) : isO h a ci := ⟨by rw [z.2.2.1 a h1 h2]; exact e, h1, by rw [z.1]; exact h2⟩
theorem Zi.a (z : Zi L xs n t D c W Y h) {a kd m j : Nat} (e : SS a = (kd, m)) (h1 : 1 ≤ a) (h2 : a ≤ n) (hj : j < m) (hm : m < 2 ^ 31) : isA h a kd (nI j) := by
  have hS := (z.2.2.1 a h1 h2).trans e
  refine ⟨⟨by rw [hS], h1, by rw [z.1]; exact h2⟩, ?_⟩
  rw [hS]
  exact nI_in hj hm
theorem Zi.p (z : Zi L xs n t D c W Y h) {a k x : Nat} (m : (a, k) ∈ D) (e : PP a k = x) : gP h a k = some x := by rw [← e]; exact (z.2.2.2.1 _ m).2.2
theorem Zi.nw (z : Zi L xs n t D c W Y h) {m kd len sl : Nat} (hm : m = n + 1) (es : SS m = (kd, len)) : Zi L xs m (t + sl) D c W Y (nwc h kd len sl) := by
  obtain ⟨z1, z2, z3, z4, z5, z6, z7, z8, z9⟩ := z
  subst hm
  have hn : h.1 = n := z1
  have gs : ∀ a, a ≠ n + 1 → gS (nwc h kd len sl) a = gS h a := fun a ha => by
    show va_up h.2.2.1 (h.1 + 1) (kd, len) a = _
    rw [hn, upd_ne ha]; rfl
  have gi : ∀ a, a ≠ n + 1 → gI (nwc h kd len sl) a = gI h a := fun a ha => by
    show (if a = h.1 + 1 then _ else h.2.2.2.1 a) = _
    rw [hn, if_neg ha]; rfl
  have gp : ∀ a, a ≠ n + 1 → gP (nwc h kd len sl) a = gP h a := fun a ha => by
    show (if a = h.1 + 1 then _ else h.2.2.2.2.2 a) = _
    rw [hn, if_neg ha]; rfl
  refine ⟨by show h.1 + 1 = n + 1; rw [hn], by show h.2.1 + sl = t + sl; rw [show h.2.1 = t from z2], fun a h1 h2 => ?_, fun e he => ?_, fun i hi => ?_, fun a k h1 h2 hw => ?_, fun p hp => ?_, by rw [gs 0 (by omega)]; exact z8, by rw [gi 0 (by omega)]; exact z9⟩
  · by_cases e : a = n + 1
    · subst e
      show va_up h.2.2.1 (h.1 + 1) (kd, len) (n + 1) = _
      rw [hn, upd_eq, es]
    · rw [gs a e]; exact z3 a h1 (by omega)
  · obtain ⟨a, b, d⟩ := z4 e he
    exact ⟨by omega, b, by rw [gp e.1 (by omega)]; exact d⟩
  · obtain ⟨a, b⟩ := z5 i hi
    exact ⟨by omega, by rw [gp 6 (by omega)]; exact b⟩
  · by_cases e : a = n + 1
    · subst e
      show (if n + 1 = h.1 + 1 then _ else h.2.2.2.1 (n + 1)) k = 0
      rw [hn, if_pos rfl]
    · rw [gi a e]; exact z6 a k h1 (by omega) hw
  · obtain ⟨a, b⟩ := z7 p hp
    refine ⟨by omega, ?_⟩
    unfold PolI
    rw [gi p (by omega), gi (p + 1) (by omega), gi (p + 2) (by omega)]
    exact b
theorem Zi.sP (z : Zi L xs n t D c W Y h) {a k v : Nat} (hv : v = PP a k) (ha : a ≤ n) (h6 : a ≠ 6) : Zi L xs n t ((a, k) :: D) c W Y (sP h a k (some v)) := by
  obtain ⟨z1, z2, z3, z4, z5, z6, z7, z8, z9⟩ := z
  refine ⟨z1, z2, z3, fun e he => ?_, fun i hi => ⟨(z5 i hi).1, by rw [gP_sP_ne (fun z => h6 z.symm)]; exact (z5 i hi).2⟩, z6, z7, z8, z9⟩
  rcases List.mem_cons.mp he with rfl | he
  · exact ⟨ha, h6, by rw [gP_sP, upd_eq, hv]⟩
  · obtain ⟨x, y, w⟩ := z4 e he
    refine ⟨x, y, ?_⟩
    by_cases e1 : e.1 = a
    · rw [e1, gP_sP]
      by_cases e2 : e.2 = k
      · rw [e2, upd_eq, hv]
      · rw [upd_ne e2, ← e1]; exact w
    · rw [gP_sP_ne e1]; exact w
theorem Zi.sP6 (z : Zi L xs n t D c W Y h) {v m : Nat} (hv : v = 7 + 3 * c) (ha : 6 ≤ n) (hm : m = c + 1) : Zi L xs n t D m W Y (Jvm.Pilot.@@N@@.sP h 6 c (some v)) := by
  obtain ⟨z1, z2, z3, z4, z5, z6, z7, z8, z9⟩ := z
  subst hm
  refine ⟨z1, z2, z3, fun e he => ⟨(z4 e he).1, (z4 e he).2.1, by rw [gP_sP_ne (z4 e he).2.1]; exact (z4 e he).2.2⟩, fun i hi => ⟨ha, ?_⟩, z6, z7, z8, z9⟩
  rw [gP_sP]
  by_cases e : i = c
  · rw [e, upd_eq, hv]
  · rw [upd_ne e]; exact (z5 i (by omega)).2
theorem Zi.sI (z : Zi L xs n t D c W Y h) {a k : Nat} {x : Int32} (hx : x = 0 ∨ a ∈ W) (h1 : 1 ≤ a) (hy : ∀ p ∈ Y, a < p ∨ p + 2 < a) : Zi L xs n t D c W Y (sI h a k x) := by
  obtain ⟨z1, z2, z3, z4, z5, z6, z7, z8, z9⟩ := z
  refine ⟨z1, z2, z3, z4, z5, fun b j h1 h2 hw => ?_, fun p hp => ⟨(z7 p hp).1, ?_⟩, z8, by rw [gI_sI_ne (by omega)]; exact z9⟩
  · by_cases e : b = a
    · rw [e, gI_sI]
      by_cases e2 : j = k
      · rw [e2, upd_eq]
        rcases hx with hx | hx
        · exact hx
        · exact absurd (by rw [e]; exact hx) hw
      · rw [upd_ne e2]; exact z6 a j (by omega) (by omega) (by rw [← e]; exact hw)
    · rw [gI_sI_ne e]; exact z6 b j h1 h2 hw
  · have := hy p hp
    unfold PolI
    rw [gI_sI_ne (by omega), gI_sI_ne (by omega), gI_sI_ne (by omega)]
    exact (z7 p hp).2
/-- the first node of a slot's policy -/
theorem X4_first (z : Zi L xs n t D c W Y h) {p : Nat} (hp : 1 ≤ p) (hpn : p + 2 ≤ n) (e0 : (SS p).1 = 4) (e1 : SS (p + 1) = (20, 60)) (e2 : SS (p + 2) = (20, 60)) (m0 : gP h p 0 = some (p + 1)) (m1 : gP h p 1 = some (p + 2)) (w0 : p ∉ W) (w1 : p + 1 ∉ W) (w2 : p + 2 ∉ W) : f_X4_add p 1 0 0 h = some ((), sI (sI (sI h (p + 1) 0 16) (p + 2) 0 0) p 2 1) := by
  apply Tr.of_eq
  obtain ⟨z1, z2, z3, z4, z5, z6, z7, z8, z9⟩ := id z
  have g2 : gI h p 2 = 0 := z6 p 2 hp (by omega) w0
  have o0 : isO h p 4 := z.o e0 hp (by omega)
  refine Tr.ck o0 ?_
  rw [g2]
  have a1 : isA h (p + 1) 20 (0 : Int32) := z.a (j := 0) e1 (by omega) (by omega) (by decide) (by decide)
  have e00 : (0 : Int32).toNatClampNeg = 0 := rfl
  have a2 : isA (sI h (p + 1) 0 16) (p + 2) 20 (0 : Int32) := z.a (j := 0) e2 (by omega) (by omega) (by decide) (by decide)
  refine Tr.neg (by decide) (Tr.be (r := 0) (h1 := h) rfl (Tr.ck o0 (Tr.nmx ?_)))
  rw [g2]
  refine Tr.unr (Tr.pos (by decide) (Tr.ck o0 (Tr.gp m0 ?_)))
  rw [g2]
  have ev : (((1 : Int32) <<< ((4 : Int32) &&& 31)) ||| ((0 : Int32) <<< ((2 : Int32) &&& 31))) ||| 0 = 16 := by decide
  rw [ev, e00]
  refine Tr.ca a1 (Tr.gp (x := p + 2) m1 ?_)
  have g3 : gI (Jvm.Pilot.@@N@@.sI h (p + 1) 0 16) p 2 = 0 := by rw [gI_sI_ne (by omega)]; exact g2
  rw [g3, e00]
  refine Tr.ca a2 (Tr.nmx ?_)
  have g4 : gI (Jvm.Pilot.@@N@@.sI (Jvm.Pilot.@@N@@.sI h (p + 1) 0 16) (p + 2) 0 0) p 2 = 0 := by rw [gI_sI_ne (by omega)]; exact g3
  rw [g4]
  exact Tr.ret ⟨rfl, rfl⟩
theorem Zi.pol (z : Zi L xs n t D c W Y h) {p : Nat} (hp : 1 ≤ p) (hpn : p + 2 ≤ n) (w0 : p ∉ W) (hy : ∀ q ∈ Y, q + 2 < p) : Zi L xs n t D c (p :: (p + 1) :: (p + 2) :: W) (p :: Y) (Jvm.Pilot.@@N@@.sI (Jvm.Pilot.@@N@@.sI (Jvm.Pilot.@@N@@.sI (Jvm.Pilot.@@N@@.sI h (p + 1) 0 16) (p + 2) 0 0) p 2 1) p 3 1) := by
  obtain ⟨z1, z2, z3, z4, z5, z6, z7, z8, z9⟩ := z
  have out : ∀ a, a ≠ p → a ≠ p + 1 → a ≠ p + 2 → gI (Jvm.Pilot.@@N@@.sI (Jvm.Pilot.@@N@@.sI (Jvm.Pilot.@@N@@.sI (Jvm.Pilot.@@N@@.sI h (p + 1) 0 16) (p + 2) 0 0) p 2 1) p 3 1) a = gI h a := fun a x y w => by
    rw [gI_sI_ne x, gI_sI_ne x, gI_sI_ne w, gI_sI_ne y]
  refine ⟨z1, z2, z3, z4, z5, fun a k h1 h2 hw => ?_, fun q hq => ?_, z8, by rw [out 0 (by omega) (by omega) (by omega)]; exact z9⟩
  · have n0 : a ≠ p := fun e => hw (by rw [e]; exact List.mem_cons_self)
    have n1 : a ≠ p + 1 := fun e => hw (by rw [e]; exact List.mem_cons_of_mem _ List.mem_cons_self)
    have n2 : a ≠ p + 2 := fun e => hw (by rw [e]; exact List.mem_cons_of_mem _ (List.mem_cons_of_mem _ List.mem_cons_self))
    rw [out a n0 n1 n2]
    exact z6 a k h1 h2 (fun m => hw (List.mem_cons_of_mem _ (List.mem_cons_of_mem _ (List.mem_cons_of_mem _ m))))
  · rcases List.mem_cons.mp hq with rfl | hq
    · refine ⟨hpn, by rw [gI_sI, upd_ne (by decide), gI_sI, upd_eq]; rfl, by rw [gI_sI, upd_eq]; rfl, fun k hk _ => ?_⟩
      have hk : k < 1 := hk
      have : k = 0 := by omega
      subst this
      refine ⟨?_, ?_⟩
      · rw [gI_sI_ne (by omega), gI_sI_ne (by omega), gI_sI_ne (by omega), gI_sI, upd_eq]; rfl
      · rw [gI_sI_ne (by omega), gI_sI_ne (by omega), gI_sI, upd_eq]; rfl
    · have := hy q hq
      refine ⟨(z7 q hq).1, ?_⟩
      unfold PolI
      rw [out q (by omega) (by omega) (by omega), out (q + 1) (by omega) (by omega) (by omega), out (q + 2) (by omega) (by omega) (by omega)]
      exact (z7 q hq).2
end INI
