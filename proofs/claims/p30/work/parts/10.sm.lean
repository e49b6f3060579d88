section SM
variable {ρ : Type} {rv : ρ → Option Value} {G : Gx} {pc q : Nat} {lv lv' st st' : List Value} {h h1 : Hp} {e e1 e2 : Option (ρ × Hp)}
theorem fvl_ne {z b a k : Nat} {ty : FieldType} (hI : gI h a k = gI h1 a k) (hL : gL h a k = gL h1 a k) (hP : gP h a k = gP h1 a k) : fvl z b h a k ty = fvl z b h1 a k ty := by
  unfold fvl
  rw [hI, hL, hP]
theorem up2_nk {α : Type} {f : Nat → Nat → α} {a j k : Nat} {x : α} (h : k ≠ j) : up2 f a j x a k = f a k := by
  rw [up2_eq]; exact if_neg h
theorem up2_kk {α : Type} {f : Nat → Nat → α} {a j : Nat} {x : α} : up2 f a j x a j = x := by
  rw [up2_eq]; exact if_pos rfl
theorem Sm.putI {a ci j i : Nat} {own n t : String} {f : Bool} {r : vw_C} {x : Int32} (hk : isO h a ci) (d : decode G.2.1 pc = .ok (.putfield i, 3)) (hw : Cond.fieldLink own i r.1 n t ∈ lw_tbl) (ho : G.1.cls = own) (hci : ci < 10) (hr : vwCl[ci]? = some r) (hj : j < nF ci) (hT : r.2.1 j = (r.1, n, t, f)) (hty : tyF ci j = .int) (hf : f = false ∨ (G.1.name = "<init>" ∧ r.1 = own)) (hq : pc + 3 = q)
    (k : Sm rv G q lv st (sI h a j x) e) : Sm rv G pc lv (.int x :: .ref a :: st) h e :=
  Sm.putF (h1 := sI h a j x) hk hci hr hj hT ho hw d hq hf (fun z b => by rw [hty]; rfl) (fun z b => by rw [hty]; rfl) rfl rfl rfl (fun _ hk => up2_ne hk) (fun _ _ => rfl) (fun _ _ => rfl) (fun z b => by rw [fvl_int (Or.inl hty)]; exact congrArg Value.int up2_kk.symm) (fun z b k hkj => fvl_ne (up2_nk hkj).symm rfl rfl) k
theorem Sm.putZ {a ci j i : Nat} {own n t : String} {f : Bool} {r : vw_C} {x : Int32} (hx : x = 0 ∨ x = 1) (hk : isO h a ci) (d : decode G.2.1 pc = .ok (.putfield i, 3)) (hw : Cond.fieldLink own i r.1 n t ∈ lw_tbl) (ho : G.1.cls = own) (hci : ci < 10) (hr : vwCl[ci]? = some r) (hj : j < nF ci) (hT : r.2.1 j = (r.1, n, t, f)) (hty : tyF ci j = .boolean) (hf : f = false ∨ (G.1.name = "<init>" ∧ r.1 = own)) (hq : pc + 3 = q)
    (k : Sm rv G q lv st (sI h a j x) e) : Sm rv G pc lv (.int x :: .ref a :: st) h e :=
  Sm.putF (h1 := sI h a j x) hk hci hr hj hT ho hw d hq hf (fun z b => by rw [hty]; rcases hx with rfl | rfl <;> rfl) (fun z b => by rw [hty]; rcases hx with rfl | rfl <;> rfl) rfl rfl rfl (fun _ hk => up2_ne hk) (fun _ _ => rfl) (fun _ _ => rfl) (fun z b => by rw [fvl_int (Or.inr hty)]; exact congrArg Value.int up2_kk.symm) (fun z b k hkj => fvl_ne (up2_nk hkj).symm rfl rfl) k
theorem Sm.putL {a ci j i : Nat} {own n t : String} {f : Bool} {r : vw_C} {x : Int64} (hk : isO h a ci) (d : decode G.2.1 pc = .ok (.putfield i, 3)) (hw : Cond.fieldLink own i r.1 n t ∈ lw_tbl) (ho : G.1.cls = own) (hci : ci < 10) (hr : vwCl[ci]? = some r) (hj : j < nF ci) (hT : r.2.1 j = (r.1, n, t, f)) (hty : tyF ci j = .long) (hf : f = false ∨ (G.1.name = "<init>" ∧ r.1 = own)) (hq : pc + 3 = q)
    (k : Sm rv G q lv st (sL h a j x) e) : Sm rv G pc lv (.long x :: .ref a :: st) h e :=
  Sm.putF (h1 := sL h a j x) hk hci hr hj hT ho hw d hq hf (fun z b => by rw [hty]; rfl) (fun z b => by rw [hty]; rfl) rfl rfl rfl (fun _ _ => rfl) (fun _ hk => up2_ne hk) (fun _ _ => rfl) (fun z b => by rw [hty]; exact congrArg Value.long up2_kk.symm) (fun z b k hkj => fvl_ne rfl (up2_nk hkj).symm rfl) k
theorem Sm.putP {a ci j i : Nat} {own n t : String} {f : Bool} {r : vw_C} {x : Nat} (hk : isO h a ci) (d : decode G.2.1 pc = .ok (.putfield i, 3)) (hw : Cond.fieldLink own i r.1 n t ∈ lw_tbl) (ho : G.1.cls = own) (hci : ci < 10) (hr : vwCl[ci]? = some r) (hj : j < nF ci) (hT : r.2.1 j = (r.1, n, t, f)) (hty : isRf (tyF ci j) = true) (hf : f = false ∨ (G.1.name = "<init>" ∧ r.1 = own)) (hq : pc + 3 = q)
    (k : Sm rv G q lv st (sP h a j (some x)) e) : Sm rv G pc lv (.ref x :: .ref a :: st) h e :=
  Sm.putF (h1 := sP h a j (some x)) hk hci hr hj hT ho hw d hq hf (fun z b => by revert hty; cases tyF ci j <;> intro hty <;> first | rfl | cases hty) (fun z b => by revert hty; cases tyF ci j <;> intro hty <;> first | rfl | cases hty) rfl rfl rfl (fun _ _ => rfl) (fun _ _ => rfl) (fun _ hk => up2_ne hk) (fun z b => (fvl_ref (h := sP h a j (some x)) hty (up2_kk (f := h.2.2.2.2.2))).symm) (fun z b k hkj => fvl_ne rfl rfl (up2_nk hkj).symm) k
/-! arrays -/
theorem Sm.iald {a : Nat} {i : Int32} (hk : isA h a 20 i) (d : decode G.2.1 pc = .ok (.iaload, 1)) (hq : pc + 1 = q) (k : Sm rv G q lv (.int (gI h a i.toNatClampNeg) :: st) h e) : Sm rv G pc lv (.int i :: .ref a :: st) h e := by
  refine k.liftR fun D dA z b p l e0 R s m args below meth c H locs cells slots Q ls hx hb hown hts hK hR hS hbz hz kk => ?_
  subst hq
  have he : (wsO z b dA h)[a - 1]? = some (ad z b a, .inl (dA 0, (gS h a).2, .inl (gI h a))) := by rw [wsO_get hk.1.2.1 hk.1.2.2]; unfold ce; rw [hk.1.1]; rfl
  exact va_iald hx hb hK hR.2.1 (a - 1) 0 he rfl hk.2 d kk
theorem Sm.zald {a : Nat} {i : Int32} (hk : isA h a 21 i) (d : decode G.2.1 pc = .ok (.baload, 1)) (hq : pc + 1 = q) (k : Sm rv G q lv (.int (gI h a i.toNatClampNeg) :: st) h e) : Sm rv G pc lv (.int i :: .ref a :: st) h e := by
  refine k.liftR fun D dA z b p l e0 R s m args below meth c H locs cells slots Q ls hx hb hown hts hK hR hS hbz hz kk => ?_
  subst hq
  have he : (wsO z b dA h)[a - 1]? = some (ad z b a, .inl (dA 1, (gS h a).2, .inl (gI h a))) := by rw [wsO_get hk.1.2.1 hk.1.2.2]; unfold ce; rw [hk.1.1]; rfl
  exact va_zald hx hb hK hR.2.1 (a - 1) 1 he rfl hk.2 d kk
theorem Sm.lald {a : Nat} {i : Int32} (hk : isA h a 22 i) (d : decode G.2.1 pc = .ok (.laload, 1)) (hq : pc + 1 = q) (k : Sm rv G q lv (.long (gL h a i.toNatClampNeg) :: st) h e) : Sm rv G pc lv (.int i :: .ref a :: st) h e := by
  refine k.liftR fun D dA z b p l e0 R s m args below meth c H locs cells slots Q ls hx hb hown hts hK hR hS hbz hz kk => ?_
  subst hq
  have he : (wsO z b dA h)[a - 1]? = some (ad z b a, .inl (dA 2, (gS h a).2, .inr (.inl (gL h a)))) := by rw [wsO_get hk.1.2.1 hk.1.2.2]; unfold ce; rw [hk.1.1]; rfl
  exact va_lald hx hb hK hR.2.1 (a - 1) 2 he rfl hk.2 d kk
theorem Sm.aald {a kd : Nat} {i : Int32} {e : Nat → Option (ρ × Hp)} (hk : isA h a kd i) (hkd : kd = 23 ∨ kd = 24) (d : decode G.2.1 pc = .ok (.aaload, 1)) (hq : pc + 1 = q) (k : ∀ x, Sm rv G q lv (.ref x :: st) h (e x)) : Sm rv G pc lv (.int i :: .ref a :: st) h ((gP h a i.toNatClampNeg).bind e) := by
  cases hp : gP h a i.toNatClampNeg with
  | none => exact Sm.none
  | some x =>
    refine (k x).liftR fun D dA z b p l e0 R s m args below meth c H locs cells slots Q ls hx hb hown hts hK hR hS hbz hz kk => ?_
    subst hq
    have e0' : va_rf ((gP h a i.toNatClampNeg).map (ad z b)) = .ref (ad z b x) := by rw [hp]; rfl
    rcases hkd with rfl | rfl
    · have he : (wsO z b dA h)[a - 1]? = some (ad z b a, .inl (dA 3, (gS h a).2, .inr (.inr (.inr (.inr (fun j => (gP h a j).map (ad z b))))))) := by rw [wsO_get hk.1.2.1 hk.1.2.2]; unfold ce; rw [hk.1.1]; rfl
      refine va_aldq hx hb hK hR.2.1 (a - 1) 3 he rfl hk.2 d ?_
      rw [e0']
      exact kk
    · have he : (wsO z b dA h)[a - 1]? = some (ad z b a, .inl (dA 4, (gS h a).2, .inr (.inr (.inr (.inr (fun j => (gP h a j).map (ad z b))))))) := by rw [wsO_get hk.1.2.1 hk.1.2.2]; unfold ce; rw [hk.1.1]; rfl
      refine va_aldq hx hb hK hR.2.1 (a - 1) 4 he rfl hk.2 d ?_
      rw [e0']
      exact kk
/-- the script -/
theorem Sm.sald {i : Int32} (hk : ¬ (i < 0 ∨ (gS h 0).2 ≤ i.toNatClampNeg)) (d : decode G.2.1 pc = .ok (.iaload, 1)) (hq : pc + 1 = q) (k : Sm rv G q lv (.int (gI h 0 i.toNatClampNeg) :: st) h e) : Sm rv G pc lv (.int i :: .ref 0 :: st) h e := by
  refine k.liftR fun D dA z b p l e0 R s m args below meth c H locs cells slots Q ls hx hb hown hts hK hR hS hbz hz kk => ?_
  subst hq
  have hX : va_X b (gS h 0).2 (gI h 0) s s.heap := hR.2.2.kept (by rw [hS.2.1 b (by omega) (by omega)])
  exact va_sld hx hb hX (by omega) (by omega) hS hk d kk
theorem Sm.salen (d : decode G.2.1 pc = .ok (.arraylength, 1)) (hq : pc + 1 = q) (k : Sm rv G q lv (.int (Int32.ofNat (gS h 0).2) :: st) h e) : Sm rv G pc lv (.ref 0 :: st) h e := by
  refine k.liftR fun D dA z b p l e0 R s m args below meth c H locs cells slots Q ls hx hb hown hts hK hR hS hbz hz kk => ?_
  subst hq
  have hX : va_X b (gS h 0).2 (gI h 0) s s.heap := hR.2.2.kept (by rw [hS.2.1 b (by omega) (by omega)])
  have hbs : b < s.heap.size := by omega
  have hbz2 : ¬ z ≤ b := by omega
  exact va_slen (b := b) hx hb hX hbs hbz2 hS d kk
theorem Sm.alen {a kd : Nat} (hk : isO h a kd) (hkd : 20 ≤ kd ∧ kd ≤ 24) (d : decode G.2.1 pc = .ok (.arraylength, 1)) (hq : pc + 1 = q) (k : Sm rv G q lv (.int (Int32.ofNat (gS h a).2) :: st) h e) : Sm rv G pc lv (.ref a :: st) h e := by
  refine k.liftR fun D dA z b p l e0 R s m args below meth c H locs cells slots Q ls hx hb hown hts hK hR hS hbz hz kk => ?_
  subst hq
  have hg := wsO_get (z := z) (b := b) (dA := dA) hk.2.1 hk.2.2
  unfold ce at hg
  rw [hk.1] at hg
  have h5 : kd = 20 ∨ kd = 21 ∨ kd = 22 ∨ kd = 23 ∨ kd = 24 := by omega
  rcases h5 with rfl | rfl | rfl | rfl | rfl
  · exact va_alen hx hb hK hR.2.1 (a - 1) 0 hg rfl rfl d kk
  · exact va_alen hx hb hK hR.2.1 (a - 1) 1 hg rfl rfl d kk
  · exact va_alen hx hb hK hR.2.1 (a - 1) 2 hg rfl rfl d kk
  · exact va_alen hx hb hK hR.2.1 (a - 1) 3 hg rfl rfl d kk
  · exact va_alen hx hb hK hR.2.1 (a - 1) 4 hg rfl rfl d kk
theorem ce_arr {z b a kd : Nat} {dA : Nat → ClassId} {x : va_E} (h2 : gS h1 a = gS h a) (hk : (gS h a).1 = kd) (hx : ce z b dA h1 a = x) : ce z b dA h1 a = x := hx
theorem Sm.iast {a : Nat} {i x : Int32} (hk : isA h a 20 i) (d : decode G.2.1 pc = .ok (.iastore, 1)) (hq : pc + 1 = q) (k : Sm rv G q lv st (sI h a i.toNatClampNeg x) e) : Sm rv G pc lv (.int x :: .int i :: .ref a :: st) h e := by
  refine k.liftW (a := a) hk.1.2.1 hk.1.2.2 rfl rfl rfl (up2_ne (by have := hk.1.2.1; omega)) (fun z b dA k hka => ce_far rfl (up2_ne hka) rfl rfl) fun D dA z b p l e0 R s m args below meth c H locs cells slots Q ls hx hb hown hts hK hP hD hS hname kk => ?_
  subst hq
  have he : (wsO z b dA h)[a - 1]? = some (ad z b a, .inl (dA 0, (gS h a).2, .inl (gI h a))) := by rw [wsO_get hk.1.2.1 hk.1.2.2]; unfold ce; rw [hk.1.1]; rfl
  have hc : ce z b dA (sI h a i.toNatClampNeg x) a = .inl (dA 0, (gS h a).2, .inl (upd (gI h a) i.toNatClampNeg x)) := by
    unfold ce
    rw [show gS (sI h a i.toNatClampNeg x) a = gS h a from rfl, hk.1.1, show gI (sI h a i.toNatClampNeg x) a = upd (gI h a) i.toNatClampNeg x from up2_eq]
    rfl
  rw [hc] at kk
  exact va_iast hx hb hK hP hD hS (a - 1) 0 he rfl hk.2 d kk
theorem nar_bool {x : Int32} (hx : x = 0 ∨ x = 1) : vp_nar .boolean x = x := by rcases hx with rfl | rfl <;> rfl
theorem Sm.zast {a : Nat} {i x : Int32} (hx01 : x = 0 ∨ x = 1) (hk : isA h a 21 i) (d : decode G.2.1 pc = .ok (.bastore, 1)) (hq : pc + 1 = q) (k : Sm rv G q lv st (sI h a i.toNatClampNeg x) e) : Sm rv G pc lv (.int x :: .int i :: .ref a :: st) h e := by
  refine k.liftW (a := a) hk.1.2.1 hk.1.2.2 rfl rfl rfl (up2_ne (by have := hk.1.2.1; omega)) (fun z b dA k hka => ce_far rfl (up2_ne hka) rfl rfl) fun D dA z b p l e0 R s m args below meth c H locs cells slots Q ls hx hb hown hts hK hP hD hS hname kk => ?_
  subst hq
  have he : (wsO z b dA h)[a - 1]? = some (ad z b a, .inl (dA 1, (gS h a).2, .inl (gI h a))) := by rw [wsO_get hk.1.2.1 hk.1.2.2]; unfold ce; rw [hk.1.1]; rfl
  have hc : ce z b dA (sI h a i.toNatClampNeg x) a = .inl (dA 1, (gS h a).2, .inl (upd (gI h a) i.toNatClampNeg (vp_nar .boolean x))) := by
    rw [nar_bool hx01]
    unfold ce
    rw [show gS (sI h a i.toNatClampNeg x) a = gS h a from rfl, hk.1.1, show gI (sI h a i.toNatClampNeg x) a = upd (gI h a) i.toNatClampNeg x from up2_eq]
    rfl
  rw [hc] at kk
  exact va_zast hx hb hK hP hD hS (a - 1) 1 he rfl hk.2 d kk
theorem Sm.last {a : Nat} {i : Int32} {x : Int64} (hk : isA h a 22 i) (d : decode G.2.1 pc = .ok (.lastore, 1)) (hq : pc + 1 = q) (k : Sm rv G q lv st (sL h a i.toNatClampNeg x) e) : Sm rv G pc lv (.long x :: .int i :: .ref a :: st) h e := by
  refine k.liftW (a := a) hk.1.2.1 hk.1.2.2 rfl rfl rfl rfl (fun z b dA k hka => ce_far rfl rfl (up2_ne hka) rfl) fun D dA z b p l e0 R s m args below meth c H locs cells slots Q ls hx hb hown hts hK hP hD hS hname kk => ?_
  subst hq
  have he : (wsO z b dA h)[a - 1]? = some (ad z b a, .inl (dA 2, (gS h a).2, .inr (.inl (gL h a)))) := by rw [wsO_get hk.1.2.1 hk.1.2.2]; unfold ce; rw [hk.1.1]; rfl
  have hc : ce z b dA (sL h a i.toNatClampNeg x) a = .inl (dA 2, (gS h a).2, .inr (.inl (vp_updL (gL h a) i.toNatClampNeg x))) := by
    unfold ce
    rw [show gS (sL h a i.toNatClampNeg x) a = gS h a from rfl, hk.1.1, show gL (sL h a i.toNatClampNeg x) a = vp_updL (gL h a) i.toNatClampNeg x from up2_eq]
    rfl
  rw [hc] at kk
  exact va_last hx hb hK hP hD hS (a - 1) 2 he rfl hk.2 d kk
theorem Sm.aast {a kd ci x : Nat} {i : Int32} (hk : isA h a kd i) (hx : isO h x ci) (hkd : (kd = 23 ∧ ci = 7) ∨ (kd = 24 ∧ ci = 4)) (d : decode G.2.1 pc = .ok (.aastore, 1)) (hq : pc + 1 = q) (k : Sm rv G q lv st (sP h a i.toNatClampNeg (some x)) e) : Sm rv G pc lv (.ref x :: .int i :: .ref a :: st) h e := by
  refine k.liftW (a := a) hk.1.2.1 hk.1.2.2 rfl rfl rfl rfl (fun z b dA k hka => ce_far rfl rfl rfl (up2_ne hka)) fun D dA z b p l e0 R s m args below meth c H locs cells slots Q ls hx' hb hown hts hK hP hD hS hname kk => ?_
  subst hq
  have hv : (wsO z b dA h)[x - 1]? = some (ad z b x, .inr (ci, fl z b h x ci)) := by rw [wsO_get hx.2.1 hx.2.2, ce_ob (by omega) hx.1]
  have hup : (fun j => (gP (sP h a i.toNatClampNeg (some x)) a j).map (ad z b)) = va_up (fun j => (gP h a j).map (ad z b)) i.toNatClampNeg (some (ad z b x)) := by
    funext j
    rw [show gP (sP h a i.toNatClampNeg (some x)) a = va_up (gP h a) i.toNatClampNeg (some x) from up2_eq]
    unfold va_up
    by_cases hj : j = i.toNatClampNeg
    · rw [if_pos hj, if_pos hj]; rfl
    · rw [if_neg hj, if_neg hj]
  rcases hkd with ⟨rfl, rfl⟩ | ⟨rfl, rfl⟩
  · have he : (wsO z b dA h)[a - 1]? = some (ad z b a, .inl (dA 3, (gS h a).2, .inr (.inr (.inr (.inr (fun j => (gP h a j).map (ad z b))))))) := by rw [wsO_get hk.1.2.1 hk.1.2.2]; unfold ce; rw [hk.1.1]; rfl
    have hc : ce z b dA (sP h a i.toNatClampNeg (some x)) a = .inl (dA 3, (gS h a).2, .inr (.inr (.inr (.inr (va_up (fun j => (gP h a j).map (ad z b)) i.toNatClampNeg (some (ad z b x))))))) := by
      rw [← hup]
      unfold ce
      rw [show gS (sP h a i.toNatClampNeg (some x)) a = gS h a from rfl, hk.1.1]
      rfl
    rw [hc] at kk
    exact va_astq (r := (RX7, TX7, 6)) hx' hb hK hP hD hS (a - 1) 3 (x - 1) 7 he rfl hv rfl hk.2 d kk
  · have he : (wsO z b dA h)[a - 1]? = some (ad z b a, .inl (dA 4, (gS h a).2, .inr (.inr (.inr (.inr (fun j => (gP h a j).map (ad z b))))))) := by rw [wsO_get hk.1.2.1 hk.1.2.2]; unfold ce; rw [hk.1.1]; rfl
    have hc : ce z b dA (sP h a i.toNatClampNeg (some x)) a = .inl (dA 4, (gS h a).2, .inr (.inr (.inr (.inr (va_up (fun j => (gP h a j).map (ad z b)) i.toNatClampNeg (some (ad z b x))))))) := by
      rw [← hup]
      unfold ce
      rw [show gS (sP h a i.toNatClampNeg (some x)) a = gS h a from rfl, hk.1.1]
      rfl
    rw [hc] at kk
    exact va_astq (r := (RX4, TX4, 4)) hx' hb hK hP hD hS (a - 1) 4 (x - 1) 4 he rfl hv rfl hk.2 d kk
end SM
