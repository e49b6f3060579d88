section SM
variable {ρ : Type} {rv : ρ → Option Value} {G : Gx} {pc q : Nat} {lv lv' st st' : List Value} {h h1 : Hp} {e e1 e2 : Option (ρ × Hp)}
theorem row0_eq {α : Type} {f : Nat → Nat → α} {a : Nat} {x : α} : row0 f a x a = fun _ => x := if_pos rfl
theorem row0_ne {α : Type} {f : Nat → Nat → α} {a k : Nat} {x : α} (h : k ≠ a) : row0 f a x k = f k := if_neg h
theorem nwc_S {kd len sl : Nat} : gS (nwc h kd len sl) (gN h + 1) = (kd, len) := va_up_self ..
theorem nwc_S0 {kd len sl : Nat} : gS (nwc h kd len sl) 0 = gS h 0 := by
  show va_up h.2.2.1 (h.1 + 1) (kd, len) 0 = h.2.2.1 0
  exact va_up_ne _ _ (show (0:Nat) ≠ h.1 + 1 by omega)
theorem nwc_I0 {kd len sl : Nat} : gI (nwc h kd len sl) 0 = gI h 0 := by
  show row0 h.2.2.2.1 (h.1 + 1) 0 0 = h.2.2.2.1 0
  exact row0_ne (show (0:Nat) ≠ h.1 + 1 by omega)
theorem ce_nwc {z b : Nat} {dA : Nat → ClassId} {kd len sl k : Nat} (hk : k ≤ gN h) : ce z b dA (nwc h kd len sl) k = ce z b dA h k := by
  have hne : k ≠ h.1 + 1 := by have : gN h = h.1 := rfl; omega
  exact ce_far (if_neg hne) (row0_ne hne) (row0_ne hne) (row0_ne hne)
/-- where a cell that is apart from all others, and last in the heap, must lie -/
theorem last_at {z b : Nat} {D : va_G} {dA : Nat → ClassId} {H1 : Heap} {x : va_E} {a : Nat} (hP : va_P D vwCl (wsO z b dA h ++ [(a, x)]) H1) (hD : va_D (fun q => z ≤ q) (wsO z b dA h ++ [(a, x)])) (hz : H1.size ≤ z + (gN h + 1)) : a = z + gN h := by
  have hlen : (wsO z b dA h).length = gN h := by simp [wsO]
  have hlast : (wsO z b dA h ++ [(a, x)])[gN h]? = some (a, x) := by rw [List.getElem?_append_right (by omega), hlen, Nat.sub_self]; rfl
  have h1 : a < H1.size := (hP _ _ hlast).lt
  have h2 : z ≤ a := hD.2 _ _ hlast
  rcases Nat.lt_or_ge a (z + gN h) with h3 | h3
  · exfalso
    have hk : (wsO z b dA h ++ [(a, x)])[a - z]? = some (z + (a - z), ce z b dA h (a - z + 1)) := by
      rw [List.getElem?_append_left (by omega)]
      have := wsO_get (z := z) (b := b) (dA := dA) (h := h) (a := a - z + 1) (by omega) (by omega)
      rw [show a - z + 1 - 1 = a - z by omega, ad_pos (by omega), show a - z + 1 - 1 = a - z by omega] at this
      exact this
    have := hD.1 (a - z) (gN h) _ _ hk hlast (show z + (a - z) = a by omega)
    omega
  · omega
/-- a step that makes a cell -/
theorem Sm.liftN {kd len sl : Nat} (k : Sm rv G q lv (.ref (gN h + 1) :: st') (nwc h kd len sl) e)
    (hs : ∀ (D : va_G) (dA : Nat → ClassId) (z b : Nat) (p : Program) (l : Launch) (e0 : Env) (R : Room) (s : State) (m : MethodId) (args : Array Value) (below : List Frame) (meth : Method) (c : Code) (H : Heap) (locs : List Loc) (cells slots : Nat) (Q : State → Prop) (ls : Array Slot),
      p.tables.exec = Jvm.exec → c.code = G.2.1 → s.vm.findClass G.1.cls = some m.cls → (∀ w ∈ TBg, w.before args s = true) → va_K D vwCl (tysA dA) s → NWok s → va_P D vwCl (wsO z b dA h) H → va_D (fun q => z ≤ q) (wsO z b dA h) → va_S (fun q => z ≤ q) s.heap H locs → (∀ q, s.heap.size ≤ q → z ≤ q) → cells + 1 ≤ R.cells → slots + sl ≤ R.slots →
      (∀ (a : Nat) (H1 : Heap), va_P D vwCl (wsO z b dA h ++ [(a, ce z b dA (nwc h kd len sl) (gN h + 1))]) H1 → va_D (fun q => z ≤ q) (wsO z b dA h ++ [(a, ce z b dA (nwc h kd len sl) (gN h + 1))]) → va_S (fun q => z ≤ q) s.heap H1 locs → W p l e0 R s m args below meth c H1 locs (cells + 1) (slots + sl) Q (F0 m q ls (.ref a :: st'.map (cv z b)))) →
      W p l e0 R s m args below meth c H locs cells slots Q (F0 m pc ls (st.map (cv z b)))) : Sm rv G pc lv st h e := by
  intro r h' he
  obtain ⟨k1, k2, k3⟩ := k r h' he
  have n1 : gN (nwc h kd len sl) = gN h + 1 := rfl
  have n2 : gT (nwc h kd len sl) = gT h + sl := rfl
  rw [n1] at k1
  rw [n2] at k2
  have k1' := k1.2
  refine ⟨⟨k1.1, by omega⟩, by omega, fun D dA z b c0 t0 p l e0 R s m args below meth c Q C hc hs' hr h0 h2 H locs ls hl hR hS => ?_⟩
  obtain ⟨C1, C2, C3, C4, C5, C6, C7, C8, C9, C10, C11⟩ := id C
  refine hs D dA z b p l e0 R s m args below meth c H locs _ _ Q ls C1 C2 C4 C5 C7 C8 hR.2.1 wsO_D hS (fun q h => by omega) (by omega) (by omega) (fun a H1 hP hD hS1 => ?_)
  refine W.sized (fun hz => ?_)
  have ha := last_at hP hD (by omega)
  subst ha
  rw [wsO_push n1 (fun k hk => ce_nwc hk)] at hP
  have hlt := (hP (gN h) _ (wsO_get (a := gN h + 1) (by omega) (Nat.le_refl _))).lt
  rw [show (ad z b (gN h + 1), ce z b dA (nwc h kd len sl) (gN h + 1)).1 = z + gN h from ad_pos (z := z) (b := b) (k := gN h + 1) (by omega)] at hlt
  have kk := k3 D dA z b c0 t0 p l e0 R s m args below meth c Q C hc hs' hr (by omega) (by omega) H1 locs ls hl ⟨by omega, hP, ?_⟩ hS1
  · rw [n1, n2, show gN h + 1 - c0 = gN h - c0 + 1 by omega, show gT h + sl - t0 = gT h - t0 + sl by omega] at kk
    have e : (Value.ref (gN h + 1) :: st').map (cv z b) = .ref (z + gN h) :: st'.map (cv z b) := by
      rw [List.map_cons]
      show Value.ref (ad z b (gN h + 1)) :: _ = _
      rw [ad_pos (by omega)]
      rfl
    rw [e] at kk
    exact kk
  · have s0 : gS (nwc h kd len sl) 0 = gS h 0 := nwc_S0
    have i0 : gI (nwc h kd len sl) 0 = gI h 0 := nwc_I0
    rw [s0, i0]
    have hb1 : b < s.heap.size := by omega
    have hb2 : ¬ z ≤ b := by omega
    exact hR.2.2.kept (by rw [hS1.2.1 b hb1 hb2, hS.2.1 b hb1 hb2])
def okT : FieldType → Bool
  | .float => false
  | .double => false
  | _ => true
theorem okT_all : ∀ ci, ci < 10 → ∀ j, j < nF ci → okT (tyF ci j) = true := by decide +kernel
theorem fvl_new {z b kd len sl j : Nat} {ty : FieldType} (ht : okT ty = true) : defaultValue ty = fvl z b (nwc h kd len sl) (gN h + 1) j ty := by
  have i0 : gI (nwc h kd len sl) (gN h + 1) j = 0 := by show row0 _ _ _ _ _ = _; rw [show gN h + 1 = h.1 + 1 from rfl, row0_eq]
  have l0 : gL (nwc h kd len sl) (gN h + 1) j = 0 := by show row0 _ _ _ _ _ = _; rw [show gN h + 1 = h.1 + 1 from rfl, row0_eq]
  have p0 : gP (nwc h kd len sl) (gN h + 1) j = none := by show row0 _ _ _ _ _ = _; rw [show gN h + 1 = h.1 + 1 from rfl, row0_eq]
  cases ty <;> first | (exact absurd ht (by decide)) | (unfold fvl; rw [i0]; rfl) | (unfold fvl; rw [l0]; rfl) | (unfold fvl; rw [p0]; rfl)
theorem Sm.new {ci i : Nat} {own : String} {r : vw_C} (d : decode G.2.1 pc = .ok (.new i, 3)) (hw : Cond.classLink own i r.1 ∈ lw_tbl) (hin : Cond.instantiable r.1 r.2.2 ∈ lw_tbl) (hini : Cond.initialized r.1 ∈ lw_tbl) (ho : G.1.cls = own) (hci : ci < 10) (hr : vwCl[ci]? = some r) (hq : pc + 3 = q)
    (k : Sm rv G q lv (.ref (gN h + 1) :: st) (nwc h ci 0 (nF ci)) e) : Sm rv G pc lv st h e := by
  refine k.liftN fun D dA z b p l e0 R s m args below meth c H locs cells slots Q ls hx hb hown hts hK hN hP hD hS hA hcl hsl kk => ?_
  subst hq
  obtain ⟨r', g1, g2, g3, g4, g5⟩ := vwCl_at hci
  cases hr.symm.trans g1
  have hce : ce z b dA (nwc h ci 0 (nF ci)) (gN h + 1) = .inr (ci, fl z b (nwc h ci 0 (nF ci)) (gN h + 1) ci) := ce_ob hci (by rw [nwc_S])
  rw [hce] at kk
  rw [← g2] at hsl kk
  refine va_new (D := D) (C := r.1) (T := r.2.1) (N := r.2.2) (own := own) hx hb hts g3 (tyF ci) (by rw [g2]; exact g4) (by rw [← ho]; exact hown) (hts _ (tbg hw rfl)) (hts _ (tbg hin rfl)) (hts _ (tbg hini rfl)) hK hP hD hS hA hr (fun j hj => ?_) hcl hsl d kk
  rw [g2] at hj
  unfold vp_V
  rw [List.getD_eq_getElem?_getD, fl_get hj]
  exact fvl_new (okT_all ci hci j hj)
theorem tysA_at {s : State} {D : va_G} {dA : Nat → ClassId} {cA : ClassId} {ty : FieldType} {t : Nat} (hK : va_K D vwCl (tysA dA ++ [(cA, ty)]) s) (ht : (tysA dA)[t]? = some (dA t, ty)) (h5 : t < 5) : cA = dA t := by
  have h1 : va_RA s cA ty := (hK.2 5 (cA, ty) rfl).2
  have h2 : va_RA s (dA t) ty := (hK.2 t (dA t, ty) (by rw [List.getElem?_append_left (by show t < 5; exact h5)]; exact ht)).2
  cases ty with
  | object C =>
    obtain ⟨_, _, _, _, _, a4⟩ := h1
    obtain ⟨_, _, _, _, _, b4⟩ := h2
    exact Option.some.inj (a4.symm.trans b4)
  | _ => exact Option.some.inj (Eq.trans (Eq.symm h1) h2)
theorem Sm.newI {n : Int32} (hn : ¬ n < 0) (hb4 : n.toNatClampNeg * 4 ≤ 536870912) (d : decode G.2.1 pc = .ok (.newarray .int, 2)) (hw : Cond.arrayClass .int ∈ lw_tbl) (hq : pc + 2 = q)
    (k : Sm rv G q lv (.ref (gN h + 1) :: st) (nwc h 20 n.toNatClampNeg n.toNatClampNeg) e) : Sm rv G pc lv (.int n :: st) h e := by
  refine k.liftN fun D dA z b p l e0 R s m args below meth c H locs cells slots Q ls hx hb hown hts hK hN hP hD hS hA hcl hsl kk => ?_
  subst hq
  have hc : ce z b dA (nwc h 20 n.toNatClampNeg n.toNatClampNeg) (gN h + 1) = .inl (dA 0, n.toNatClampNeg, .inl (fun _ => 0)) := by
    unfold ce
    rw [nwc_S, show gI (nwc h 20 n.toNatClampNeg n.toNatClampNeg) (gN h + 1) = (fun _ => 0) from row0_eq]
    rfl
  rw [hc] at kk
  refine va_newa (atype := .int) (ty := .int) (a0 := (n.toNatClampNeg, .inl (fun _ => 0))) hx hb (hts _ (tbg hw rfl)) rfl hK hP hD hS hA (fun cA => rfl) hn rfl hb4 hcl hsl d (fun a cA H1 hK1 hP1 hD1 hS1 => ?_)
  have e : cA = dA 0 := tysA_at hK1 rfl (by omega)
  subst e
  exact kk a H1 hP1 hD1 hS1
theorem Sm.newZ {n : Int32} (hn : ¬ n < 0) (hb4 : n.toNatClampNeg * 1 ≤ 536870912) (d : decode G.2.1 pc = .ok (.newarray .boolean, 2)) (hw : Cond.arrayClass .boolean ∈ lw_tbl) (hq : pc + 2 = q)
    (k : Sm rv G q lv (.ref (gN h + 1) :: st) (nwc h 21 n.toNatClampNeg n.toNatClampNeg) e) : Sm rv G pc lv (.int n :: st) h e := by
  refine k.liftN fun D dA z b p l e0 R s m args below meth c H locs cells slots Q ls hx hb hown hts hK hN hP hD hS hA hcl hsl kk => ?_
  subst hq
  have hc : ce z b dA (nwc h 21 n.toNatClampNeg n.toNatClampNeg) (gN h + 1) = .inl (dA 1, n.toNatClampNeg, .inl (fun _ => 0)) := by
    unfold ce
    rw [nwc_S, show gI (nwc h 21 n.toNatClampNeg n.toNatClampNeg) (gN h + 1) = (fun _ => 0) from row0_eq]
    rfl
  rw [hc] at kk
  refine va_newa (atype := .boolean) (ty := .boolean) (a0 := (n.toNatClampNeg, .inl (fun _ => 0))) hx hb (hts _ (tbg hw rfl)) rfl hK hP hD hS hA (fun cA => rfl) hn rfl hb4 hcl hsl d (fun a cA H1 hK1 hP1 hD1 hS1 => ?_)
  have e : cA = dA 1 := tysA_at hK1 rfl (by omega)
  subst e
  exact kk a H1 hP1 hD1 hS1
theorem Sm.newL {n : Int32} (hn : ¬ n < 0) (hb4 : n.toNatClampNeg * 8 ≤ 536870912) (d : decode G.2.1 pc = .ok (.newarray .long, 2)) (hw : Cond.arrayClass .long ∈ lw_tbl) (hq : pc + 2 = q)
    (k : Sm rv G q lv (.ref (gN h + 1) :: st) (nwc h 22 n.toNatClampNeg n.toNatClampNeg) e) : Sm rv G pc lv (.int n :: st) h e := by
  refine k.liftN fun D dA z b p l e0 R s m args below meth c H locs cells slots Q ls hx hb hown hts hK hN hP hD hS hA hcl hsl kk => ?_
  subst hq
  have hc : ce z b dA (nwc h 22 n.toNatClampNeg n.toNatClampNeg) (gN h + 1) = .inl (dA 2, n.toNatClampNeg, .inr (.inl (fun _ => 0))) := by
    unfold ce
    rw [nwc_S, show gL (nwc h 22 n.toNatClampNeg n.toNatClampNeg) (gN h + 1) = (fun _ => 0) from row0_eq]
    rfl
  rw [hc] at kk
  refine va_newa (atype := .long) (ty := .long) (a0 := (n.toNatClampNeg, .inr (.inl (fun _ => 0)))) hx hb (hts _ (tbg hw rfl)) rfl hK hP hD hS hA (fun cA => rfl) hn rfl hb4 hcl hsl d (fun a cA H1 hK1 hP1 hD1 hS1 => ?_)
  have e : cA = dA 2 := tysA_at hK1 rfl (by omega)
  subst e
  exact kk a H1 hP1 hD1 hS1
theorem Sm.newQ {kd i : Nat} {C own : String} {n : Int32} (hkd : (kd = 23 ∧ C = RX7) ∨ (kd = 24 ∧ C = RX4)) (hn : ¬ n < 0) (hb4 : n.toNatClampNeg * 4 ≤ 536870912) (d : decode G.2.1 pc = .ok (.anewarray i, 3)) (hw : Cond.classLink own i C ∈ lw_tbl) (ho : G.1.cls = own) (hq : pc + 3 = q)
    (k : Sm rv G q lv (.ref (gN h + 1) :: st) (nwc h kd n.toNatClampNeg n.toNatClampNeg) e) : Sm rv G pc lv (.int n :: st) h e := by
  refine k.liftN fun D dA z b p l e0 R s m args below meth c H locs cells slots Q ls hx hb hown hts hK hN hP hD hS hA hcl hsl kk => ?_
  subst hq
  have hnul : (fun j => Option.map (ad z b) (gP (nwc h kd n.toNatClampNeg n.toNatClampNeg) (gN h + 1) j)) = (fun _ => Option.none) := by
    rw [show gP (nwc h kd n.toNatClampNeg n.toNatClampNeg) (gN h + 1) = (fun _ => Option.none) from row0_eq]
    rfl
  rcases hkd with ⟨rfl, rfl⟩ | ⟨rfl, rfl⟩
  · have hc : ce z b dA (nwc h 23 n.toNatClampNeg n.toNatClampNeg) (gN h + 1) = .inl (dA 3, n.toNatClampNeg, .inr (.inr (.inr (.inr (fun _ => Option.none))))) := by
      unfold ce
      rw [nwc_S]
      show Sum.inl (_, _, Sum.inr (Sum.inr (Sum.inr (Sum.inr (fun j => Option.map (ad z b) (gP _ _ j)))))) = _
      rw [hnul]
    rw [hc] at kk
    refine va_newq (own := own) hx hb (by rw [← ho]; exact hown) (hts _ (tbg hw rfl)) hN.2.1 hK hP hD hS hA hn rfl hb4 hcl hsl d (fun a cA H1 hK1 hP1 hD1 hS1 => ?_)
    have e : cA = dA 3 := tysA_at hK1 rfl (by omega)
    subst e
    exact kk a H1 hP1 hD1 hS1
  · have hc : ce z b dA (nwc h 24 n.toNatClampNeg n.toNatClampNeg) (gN h + 1) = .inl (dA 4, n.toNatClampNeg, .inr (.inr (.inr (.inr (fun _ => Option.none))))) := by
      unfold ce
      rw [nwc_S]
      show Sum.inl (_, _, Sum.inr (Sum.inr (Sum.inr (Sum.inr (fun j => Option.map (ad z b) (gP _ _ j)))))) = _
      rw [hnul]
    rw [hc] at kk
    refine va_newq (own := own) hx hb (by rw [← ho]; exact hown) (hts _ (tbg hw rfl)) hN.2.2 hK hP hD hS hA hn rfl hb4 hcl hsl d (fun a cA H1 hK1 hP1 hD1 hS1 => ?_)
    have e : cA = dA 4 := tysA_at hK1 rfl (by omega)
    subst e
    exact kk a H1 hP1 hD1 hS1
end SM
