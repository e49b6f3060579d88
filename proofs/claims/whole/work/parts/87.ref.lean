/-! THE REFERENCE: depths -/
theorem wl_n {o : Nat} {T : List TE} {p : Nat} : ∀ n i, wl o T p n i ≤ n := by
  intro n
  induction n with
  | zero => intro i; exact Nat.le_refl _
  | succ n ih =>
    intro i
    unfold wl
    split
    · omega
    · have := ih (chl T (i - o) (vlN p (T.getD (i - o) (0, [])).1)); omega
theorem wl_mv {o : Nat} {T : List TE} {p : Nat} (ho : o ≤ 128) (K : TOK o T) : ∀ {n i : Nat}, i < o + T.length → wl 128 (T.map (mvE o)) p n (mvI o i) = wl o T p n i := by
  intro n
  induction n with
  | zero => intro i _; rfl
  | succ n ih =>
    intro i hi
    by_cases c : i < o
    · have e : mvI o i = i := if_pos c
      have e1 : wl 128 (T.map (mvE o)) p (n + 1) i = 0 := if_pos (by omega)
      have e2 : wl o T p (n + 1) i = 0 := if_pos c
      rw [e, e1, e2]
    · have e : mvI o i = 128 + (i - o) := if_neg c
      have ek : 128 + (i - o) - 128 = i - o := by omega
      have hk : i - o < T.length := by omega
      obtain ⟨k1, k2, k3⟩ := K (i - o) _ (gD_get T (0, []) hk)
      have e1 : wl 128 (T.map (mvE o)) p (n + 1) (128 + (i - o)) = wl 128 (T.map (mvE o)) p n (chl (T.map (mvE o)) (128 + (i - o) - 128) (vlN p ((T.map (mvE o)).getD (128 + (i - o) - 128) (0, [])).1)) + 1 := if_neg (by omega)
      have e2 : wl o T p (n + 1) i = wl o T p n (chl T (i - o) (vlN p (T.getD (i - o) (0, [])).1)) + 1 := if_neg c
      have hf : ((T.map (mvE o)).getD (i - o) (0, [])).1 = (T.getD (i - o) (0, [])).1 := by rw [gD_map (d := (0, [])) hk]; rfl
      have hv := vlN_lt p (T.getD (i - o) (0, [])).1
      rw [e, e1, e2, ek, hf, chl_mv hk k2 hv, ih (by have := k3 _ hv; unfold chl; omega)]
section REF
variable {h : Hp} {G : St} {T : List TE}
theorem rf_chl (B : RfT h T) (K : TB T) {k v : Nat} (hk : k < T.length) (hv : v < 4) : gI h 146 (4 * k + v) = nI (chl T k v) ∧ chl T k v < 2 ^ 31 := by
  have e := gD_get T (0, []) hk
  exact ⟨(B.2 k _ e).2 v hv, (K k _ e).2.2 v hv⟩
theorem rf_fld (B : RfT h T) {k : Nat} (hk : k < T.length) : gI h 145 k = nI (T.getD k (0, [])).1 := (B.2 k _ (gD_get T (0, []) hk)).1
theorem x4_i (k v : Nat) : (4 : Int32) * nI k + nI v = nI (4 * k + v) := by rw [show (4 : Int32) = nI 4 from rfl, pk_mul, nI_add]
theorem m128 {i : Nat} (h : 128 ≤ i) : nI i - (128 : Int32) = nI (i - 128) := pk_sub (b := 128) h
theorem X10_dp24 (L : Lay h) (B : RfT h T) (hT : T.length ≤ 64) {p : Nat} (hp : p < 64) {r most : Nat} (hr : HF 128 T 3 r) (hm : most < 2 ^ 31) {k11 : (Int32 × Int32 × Hp) → Option (Int32 × Hp)} {Q : Int32 → Hp → Prop} (kk : Tr (k11 (nI (if most < wl 128 T p 3 r then wl 128 T p 3 r else most), nI (p + 1), h)) Q) : Tr (loopN (fun k s => f_X10_depthOf_24 k11 k 123 (nI r) (nI most) (nI p) s.1 s.2.1 s.2.2) 5000 ((0 : Int32), nI r, h)) Q := by
  refine Tr.loop (I := fun m s => ∃ i c, s = (nI c, nI i, h) ∧ HF 128 T m i ∧ c + wl 128 T p m i = wl 128 T p 3 r ∧ c + m ≤ 3) ?_ 5000 3 _ ⟨r, 0, rfl, hr, by omega, by omega⟩ (by decide)
  intro m s k hI hk
  obtain ⟨i, c, rfl, hf, e, hc⟩ := hI
  dsimp only
  have hlt := hf.lt
  by_cases ci : i < 128
  · have ew : wl 128 T p m i = 0 := by
      cases m with
      | zero => rfl
      | succ m => exact if_pos ci
    have ec : wl 128 T p 3 r = c := by omega
    rw [ec] at kk
    refine Tr.pos (nI_lt (b := 128) ci (by decide)) ?_
    by_cases cm : c ≤ most
    · rw [if_neg (by omega)] at kk
      refine Tr.pos ((nI_leI (by omega) hm).mpr cm) (Tr.nmx ?_)
      rw [nI_1]; exact kk
    · rw [if_pos (by omega)] at kk
      refine Tr.neg (fun z => cm ((nI_leI (by omega) hm).mp z)) (Tr.nmx ?_)
      rw [nI_1]; exact kk
  · obtain ⟨m', rfl, hk2, hf3, hl4, hch⟩ := hf.c1 ci
    have ew : wl 128 T p (m' + 1) i = wl 128 T p m' (chl T (i - 128) (vlN p (T.getD (i - 128) (0, [])).1)) + 1 := if_neg ci
    refine Tr.neg (nI_nlt (b := 128) (by omega) (by omega)) (Tr.ck (Lo_123 L) (Tr.gp (Lp_123_33 L) (Tr.gp (Lp_123_32 L) ?_)))
    rw [m128 (by omega)]
    refine Tr.ca (La_145 L (by omega)) ?_
    rw [nI_clamp (by omega), rf_fld B hk2]
    refine Tr.be (X10_valueOf hp hf3 h) ?_
    have hv := vlN_lt p (T.getD (i - 128) (0, [])).1
    rw [x4_i]
    refine Tr.ca (La_146 L (by omega)) (Tr.nmx (Tr.nmx ?_))
    have b2 := (B.2 (i - 128) _ (gD_get T (0, []) hk2)).2 _ hv
    rw [nI_clamp (by omega), b2, nI_1]
    exact hk m' _ (by omega) ⟨_, c + 1, rfl, hch _ hv, by unfold chl at ew; omega, by omega⟩
theorem X10_depthOf (M : MI h G) {s : Nat} (hs : s < 4) : Tr (f_X10_depthOf 123 (nI s) h) (RQ h G (nI (dpi (cO (evI (G.2.2.1 s))) (dps (cO (evI (G.2.2.1 s))) (cT (evI (G.2.2.1 s)))) (cR (evI (G.2.2.1 s)))))) := by
  refine Tr.ck (Lo_123 M.1) (Tr.bd (X10_drawsAlone M hs) (fun r h1 q => ?_))
  obtain ⟨q1, q2, q3, q4, q6, q7⟩ := q
  subst q1
  generalize evI (G.2.2.1 s) = R at q2 q3 q4 ⊢
  have ho := cO_le R
  have hf : HF 128 (dT0 128 R [] []) 3 (dRt 128 R [] []) := HF_rt ho
  have hc := HF_c R
  have hlen : (dT0 128 R [] []).length ≤ 64 := by
    have t2 : (dT2 R [] []).length ≤ 0 + 16 := tss_len _ _ _ 16
    have t1 : (dT1 128 R [] []).length ≤ (dT2 R [] []).length + 4 := tss_len _ _ _ 4
    have t0 : (dT0 128 R [] []).length ≤ (dT1 128 R [] []).length + 1 := tss_len _ _ _ 1
    omega
  have ew : ∀ p, wl 128 (dT0 128 R [] []) p 3 (dRt 128 R [] []) = wl (cO R) (cT R) p 3 (cR R) := fun p => by
    rw [mv_dT0, mv_dRt]; exact wl_mv ho (TOK_c R) hc.lt
  rw [← dp_walk (TOK_c R) hc]
  refine Tr.up (N := 64) (J := fun p x => x = (nI (mxF (fun p => wl (cO R) (cT R) p 3 (cR R)) p), nI p, h1)) ?_ ?_ (p := 0) rfl (Nat.zero_le _) (by omega)
  · intro p x kk hp hJ hk'
    subst hJ
    dsimp only
    refine Tr.neg (nI_ge (b := 64) hp (by decide)) ?_
    have hb : mxF (fun p => wl (cO R) (cT R) p 3 (cR R)) p ≤ 3 := mxF_le (fun j _ => wl_n 3 _)
    refine X10_dp24 q6.1 q3 hlen hp hf (by omega) (hk' _ ?_)
    rw [ew]
    rfl
  · intro x kk hJ
    subst hJ
    exact Tr.pos (nI_le (b := 64) (Nat.le_refl _) (by decide)) (Tr.ret ⟨rfl, q6, q7⟩)
theorem X10_diagramDepth (M : MI h G) (x : Int32) : Tr (f_X10_diagramDepth 123 x h) (MP h (aDepth G x)) := by
  unfold aDepth oneQ
  refine X10_os x (fun e => ?_) (fun s hs e e2 => ?_)
  · rw [e]; exact X10_fl M (by decide) (by decide)
  · rw [e2, e]
    exact Tr.ck (Lo_123 M.1) (Tr.bd (X10_depthOf M hs) (fun r h1 q => Tr.ret q))
end REF
/-! THE REFERENCE: the main child -/
def mbF (c : Nat → Nat) : Nat → Nat × Nat
  | 0 => (0, 0)
  | n + 1 => if vcn c (c n) 4 ≤ (mbF c n).2 then mbF c n else (n, vcn c (c n) 4)
theorem mbF_is (c : Nat → Nat) : ∀ n, mcF c n = (c (mbF c n).1, (mbF c n).2) := by
  intro n
  induction n with
  | zero => rfl
  | succ n ih =>
    unfold mcF mbF
    rw [ih]
    dsimp only
    split <;> rfl
theorem mbF_lt (c : Nat → Nat) : ∀ n, n ≤ 4 → (mbF c n).1 < 4 ∧ (mbF c n).2 ≤ 4 := by
  intro n
  induction n with
  | zero => intro _; exact ⟨(by decide : 0 < 4), (by decide : 0 ≤ 4)⟩
  | succ n ih =>
    intro h
    unfold mbF
    split
    · exact ih (by omega)
    · exact ⟨by show n < 4; omega, vcn_le c _ 4⟩
section REF
variable {h : Hp} {G : St} {T : List TE}
theorem X10_mainOf (L : Lay h) (B : RfT h T) (K : TB T) (hT : T.length ≤ 64) {k : Nat} (hk : k < T.length) : f_X10_mainOf 123 (nI k) h = some (nI (mainN (chl T k)), h) := by
  apply Tr.of_eq
  generalize hc : chl T k = c
  have bc : ∀ v, v < 4 → gI h 146 (4 * k + v) = nI (c v) ∧ c v < 2 ^ 31 := fun v hv => by rw [← hc]; exact rf_chl B K hk hv
  refine Tr.up (N := 4) (J := fun v x => x = (nI (mbF c v).1, nI (mbF c v).2, nI v)) ?_ ?_ (p := 0) rfl (Nat.zero_le _) (by omega)
  · intro v x kk hv hJ hk'
    subst hJ
    dsimp only
    obtain ⟨l1, l2⟩ := mbF_lt c v (by omega)
    refine Tr.neg (nI_ge (b := 4) hv (by decide)) ?_
    refine Tr.up (N := 4) (J := fun e y => y = (nI (vcn c (c v) e), nI e)) ?_ ?_ (p := 0) rfl (Nat.zero_le _) (by omega)
    · intro e y k2 he hJ he'
      subst hJ
      dsimp only
      refine Tr.neg (nI_ge (b := 4) he (by decide)) (Tr.ck (Lo_123 L) (Tr.gp (Lp_123_33 L) ?_))
      rw [x4_i, x4_i]
      refine Tr.ca (La_146 L (by omega)) (Tr.gp (Lp_123_33 L) (Tr.ca (La_146 L (by omega)) ?_))
      rw [nI_clamp (by omega), nI_clamp (by omega), (bc e he).1, (bc v hv).1]
      by_cases ce : c e = c v
      · refine Tr.pos (by rw [ce]) (Tr.nmx (Tr.nmx (he' _ ?_)))
        have ev : vcn c (c v) (e + 1) = vcn c (c v) e + 1 := if_pos ce
        rw [nI_1, nI_1, ev]
      · refine Tr.neg (nI_ne (bc e he).2 (bc v hv).2 ce) (Tr.nmx (Tr.nmx (he' _ ?_)))
        have ev : vcn c (c v) (e + 1) = vcn c (c v) e := if_neg ce
        rw [nI_1, ev, show nI (vcn c (c v) e) + 0 = nI (vcn c (c v) e) from nI_add _ 0]
    · intro y k2 hJ
      subst hJ
      dsimp only
      have h4 := vcn_le c (c v) 4
      refine Tr.pos (nI_le (b := 4) (Nat.le_refl _) (by decide)) ?_
      by_cases cv : vcn c (c v) 4 ≤ (mbF c v).2
      · have em : mbF c (v + 1) = mbF c v := if_pos cv
        have cI := (nI_leI (a := vcn c (c v) 4) (b := (mbF c v).2) (by omega) (by omega)).mpr cv
        refine Tr.pos cI (Tr.pos cI (Tr.nmx (hk' _ ?_)))
        rw [em, nI_1]
      · have em : mbF c (v + 1) = (v, vcn c (c v) 4) := if_neg cv
        have cI : ¬ nI (vcn c (c v) 4) ≤ nI (mbF c v).2 := fun z => cv ((nI_leI (by omega) (by omega)).mp z)
        refine Tr.neg cI (Tr.neg cI (Tr.nmx (hk' _ ?_)))
        rw [em, nI_1]
  · intro x kk hJ
    subst hJ
    dsimp only
    obtain ⟨l1, l2⟩ := mbF_lt c 4 (by decide)
    refine Tr.pos (nI_le (b := 4) (Nat.le_refl _) (by decide)) (Tr.ck (Lo_123 L) (Tr.gp (Lp_123_33 L) ?_))
    rw [x4_i]
    refine Tr.ca (La_146 L (by omega)) (Tr.ret ⟨?_, rfl⟩)
    rw [nI_clamp (by omega), (bc _ l1).1]
    unfold mainN
    rw [mbF_is]
theorem X10_fives {f : Nat} (hf : f < 3) (h : Hp) : f_X10_fives (nI f) h = some (wtI f, h) := by
  match f, hf with
  | 0, _ => exact Tr.of_eq (Tr.pos rfl (Tr.ret ⟨rfl, rfl⟩))
  | 1, _ => exact Tr.of_eq (Tr.neg (show ¬ nI 1 = (0 : Int32) by decide) (Tr.pos rfl (Tr.ret ⟨rfl, rfl⟩)))
  | 2, _ => exact Tr.of_eq (Tr.neg (show ¬ nI 2 = (0 : Int32) by decide) (Tr.neg (show ¬ nI 2 = (1 : Int32) by decide) (Tr.ret ⟨rfl, rfl⟩)))
theorem X10_demandOf (d : Int32) {f : Nat} (hf : f < 3) (h : Hp) : f_X10_demandOf d (nI f) h = some (eF d f, h) := by
  match f, hf with
  | 0, _ => exact Tr.of_eq (Tr.be (X10_fives (f := 0) (by decide) h) (Tr.neg (by decide) (Tr.nmx (Tr.ret ⟨rfl, rfl⟩))))
  | 1, _ => exact Tr.of_eq (Tr.be (X10_fives (f := 1) (by decide) h) (Tr.neg (by decide) (Tr.nmx (Tr.ret ⟨rfl, rfl⟩))))
  | 2, _ =>
    have e1 : ∀ x : Int32, x / wtI 2 = x := fun x => by
      show x / (1 : Int32) = x
      exact Int32.div_one
    exact Tr.of_eq (Tr.be (X10_fives (f := 2) (by decide) h) (Tr.neg (by decide) (Tr.nm (fun v ev => Tr.ret ⟨by rw [ev, e1]; rfl, rfl⟩))))
end REF
