/-! fields, arrays -/
/-- a is an object of the kind ci -/
def isO (h : Hp) (a ci : Nat) : Prop := (gS h a).1 = ci ∧ 1 ≤ a ∧ a ≤ gN h
/-- a is an array of the kind kd, and i an index of it -/
def isA (h : Hp) (a kd : Nat) (i : Int32) : Prop := ((gS h a).1 = kd ∧ 1 ≤ a ∧ a ≤ gN h) ∧ ¬ (i < 0 ∨ (gS h a).2 ≤ i.toNatClampNeg)
def isOD (h : Hp) (a ci : Nat) : Decidable (isO h a ci) := inferInstanceAs (Decidable ((gS h a).1 = ci ∧ 1 ≤ a ∧ a ≤ gN h))
def isAD (h : Hp) (a kd : Nat) (i : Int32) : Decidable (isA h a kd i) := inferInstanceAs (Decidable (((gS h a).1 = kd ∧ 1 ≤ a ∧ a ≤ gN h) ∧ ¬ (i < 0 ∨ (gS h a).2 ≤ i.toNatClampNeg)))
/-- go on if a is an object of the kind ci -/
def ck {α : Type} (h : Hp) (a ci : Nat) (e : Option α) : Option α := if (gS h a).1 = ci ∧ 1 ≤ a ∧ a ≤ gN h then e else none
/-- go on if a is an array of the kind kd, and i an index of it -/
def ca {α : Type} (h : Hp) (a kd : Nat) (i : Int32) (e : Option α) : Option α := if ((gS h a).1 = kd ∧ 1 ≤ a ∧ a ≤ gN h) ∧ ¬ (i < 0 ∨ (gS h a).2 ≤ i.toNatClampNeg) then e else none
/-- go on if x is 0 or 1 -/
def bz {α : Type} (x : Int32) (e : Option α) : Option α := if x = 0 ∨ x = 1 then e else none
section SM
variable {ρ : Type} {rv : ρ → Option Value} {G : Gx} {pc q : Nat} {lv lv' st st' : List Value} {h h1 : Hp} {e e1 e2 : Option (ρ × Hp)}
theorem Sm.ck {a ci : Nat} (k : isO h a ci → Sm rv G pc lv st h e) : Sm rv G pc lv st h (Jvm.Pilot.@@N@@.ck h a ci e) := Sm.iff k (fun _ => Sm.none)
theorem Sm.ca {a kd : Nat} {i : Int32} (k : isA h a kd i → Sm rv G pc lv st h e) : Sm rv G pc lv st h (Jvm.Pilot.@@N@@.ca h a kd i e) := Sm.iff k (fun _ => Sm.none)
theorem Sm.bz {x : Int32} (k : (x = 0 ∨ x = 1) → Sm rv G pc lv st h e) : Sm rv G pc lv st h (Jvm.Pilot.@@N@@.bz x e) := Sm.iff k (fun _ => Sm.none)
/-- a step that reads the world -/
theorem Sm.liftR (k : Sm rv G q lv st' h e)
    (hs : ∀ (D : va_G) (dA : Nat → ClassId) (z b : Nat) (p : Program) (l : Launch) (e0 : Env) (R : Room) (s : State) (m : MethodId) (args : Array Value) (below : List Frame) (meth : Method) (c : Code) (H : Heap) (locs : List Loc) (cells slots : Nat) (Q : State → Prop) (ls : Array Slot),
      p.tables.exec = Jvm.exec → c.code = G.2.1 → s.vm.findClass G.1.cls = some m.cls → (∀ w ∈ TBg, w.before args s = true) → va_K D vwCl (tysA dA) s → Rep z b D dA s h H → va_S (fun q => z ≤ q) s.heap H locs → b < z → z ≤ s.heap.size →
      W p l e0 R s m args below meth c H locs cells slots Q (F0 m q ls (st'.map (cv z b))) →
      W p l e0 R s m args below meth c H locs cells slots Q (F0 m pc ls (st.map (cv z b)))) : Sm rv G pc lv st h e := by
  intro r h' he
  obtain ⟨k1, k2, k3⟩ := k r h' he
  refine ⟨k1, k2, fun D dA z b c0 t0 p l e0 R s m args below meth c Q C hc hs' hr h0 h1 H locs ls hl hR hS => ?_⟩
  obtain ⟨C1, C2, C3, C4, C5, C6, C7, C8, C9, C10, C11⟩ := id C
  exact hs D dA z b p l e0 R s m args below meth c H locs _ _ Q ls C1 C2 C4 C5 C7 hR hS C10 (by omega) (k3 D dA z b c0 t0 p l e0 R s m args below meth c Q C hc hs' hr h0 h1 H locs ls hl hR hS)
/-- a step that writes one cell a of the world -/
theorem Sm.liftW {a : Nat} (k : Sm rv G q lv st' h1 e) (ha : 1 ≤ a) (ha2 : a ≤ gN h) (hn : gN h1 = gN h) (ht : gT h1 = gT h) (h0s : (gS h1 0).2 = (gS h 0).2) (h0i : gI h1 0 = gI h 0) (ho : ∀ z b dA k, k ≠ a → ce z b dA h1 k = ce z b dA h k)
    (hs : ∀ (D : va_G) (dA : Nat → ClassId) (z b : Nat) (p : Program) (l : Launch) (e0 : Env) (R : Room) (s : State) (m : MethodId) (args : Array Value) (below : List Frame) (meth : Method) (c : Code) (H : Heap) (locs : List Loc) (cells slots : Nat) (Q : State → Prop) (ls : Array Slot),
      p.tables.exec = Jvm.exec → c.code = G.2.1 → s.vm.findClass G.1.cls = some m.cls → (∀ w ∈ TBg, w.before args s = true) → va_K D vwCl (tysA dA) s → va_P D vwCl (wsO z b dA h) H → va_D (fun q => z ≤ q) (wsO z b dA h) → va_S (fun q => z ≤ q) s.heap H locs → meth.name = G.1.name →
      (∀ (H1 : Heap) (locs1 : List Loc), va_P D vwCl ((wsO z b dA h).set (a - 1) (ad z b a, ce z b dA h1 a)) H1 → va_D (fun q => z ≤ q) ((wsO z b dA h).set (a - 1) (ad z b a, ce z b dA h1 a)) → va_S (fun q => z ≤ q) s.heap H1 locs1 → W p l e0 R s m args below meth c H1 locs1 cells slots Q (F0 m q ls (st'.map (cv z b)))) →
      W p l e0 R s m args below meth c H locs cells slots Q (F0 m pc ls (st.map (cv z b)))) : Sm rv G pc lv st h e := by
  intro r h' he
  obtain ⟨k1, k2, k3⟩ := k r h' he
  rw [hn] at k1
  rw [ht] at k2
  refine ⟨k1, k2, fun D dA z b c0 t0 p l e0 R s m args below meth c Q C hc hs' hr h0 h2 H locs ls hl hR hS => ?_⟩
  obtain ⟨C1, C2, C3, C4, C5, C6, C7, C8, C9, C10, C11⟩ := id C
  refine hs D dA z b p l e0 R s m args below meth c H locs _ _ Q ls C1 C2 C4 C5 C7 hR.2.1 wsO_D hS C6 (fun H1 locs1 hP hD hS1 => ?_)
  rw [wsO_set ha hn (ho z b dA)] at hP
  refine W.sized (fun hz => ?_)
  have hlt := (hP (gN h1 - 1) _ (wsO_get (a := gN h1) (by omega) (Nat.le_refl _))).lt
  rw [show (ad z b (gN h1), ce z b dA h1 (gN h1)).1 = z + (gN h1 - 1) from ad_pos (by omega)] at hlt
  have kk := k3 D dA z b c0 t0 p l e0 R s m args below meth c Q C hc hs' hr (by rw [hn]; exact h0) (by rw [ht]; exact h2) H1 locs1 ls hl ⟨by omega, hP, ?_⟩ hS1
  · rw [hn, ht] at kk
    exact kk
  · rw [h0s, h0i]
    exact hR.2.2.kept (by rw [hS1.2.1 b (by omega) (by omega), hS.2.1 b (by omega) (by omega)])
theorem vwCl_at {ci : Nat} (hci : ci < 10) : ∃ r, vwCl[ci]? = some r ∧ r.2.2 = nF ci ∧ (∀ w ∈ u_ws r.1 r.2.1 r.2.2, w ∈ TBg) ∧ (∀ k, k < nF ci → parseFieldDescriptor (r.2.1 k).2.2.1 = some (tyF ci k)) ∧ (∀ a, a < nF ci → ∀ c, c < nF ci → a ≠ c → (r.2.1 a).2.1 ≠ (r.2.1 c).2.1) := by
  have g : ∀ {C : String} {T : u_T} {N : Nat}, (∀ w ∈ u_ws C T N, w ∈ lw_tbl) → ∀ w ∈ u_ws C T N, w ∈ TBg := fun h w hw => by
    refine tbg (h w hw) ?_
    obtain ⟨k, -, rfl⟩ := List.mem_map.mp hw
    unfold u_lay
    split <;> rfl
  match ci, hci with
  | 0, _ => exact ⟨_, rfl, rfl, g inX0, tyX0_ok, nmX0⟩
  | 1, _ => exact ⟨_, rfl, rfl, g inX1, tyX1_ok, nmX1⟩
  | 2, _ => exact ⟨_, rfl, rfl, g inX2, tyX2_ok, nmX2⟩
  | 3, _ => exact ⟨_, rfl, rfl, g inX3, tyX3_ok, nmX3⟩
  | 4, _ => exact ⟨_, rfl, rfl, g inX4, tyX4_ok, nmX4⟩
  | 5, _ => exact ⟨_, rfl, rfl, g inX5, tyX5_ok, nmX5⟩
  | 6, _ => exact ⟨_, rfl, rfl, g inX6, tyX6_ok, nmX6⟩
  | 7, _ => exact ⟨_, rfl, rfl, g inX7, tyX7_ok, nmX7⟩
  | 8, _ => exact ⟨_, rfl, rfl, g inX8, tyX8_ok, nmX8⟩
  | 9, _ => exact ⟨_, rfl, rfl, g inX9, tyX9_ok, nmX9⟩
theorem ce_ob {z b : Nat} {dA : Nat → ClassId} {a ci : Nat} (hci : ci < 10) (hk : (gS h a).1 = ci) : ce z b dA h a = .inr (ci, fl z b h a ci) := by
  unfold ce
  rw [hk]
  match ci, hci with
  | 0, _ => rfl
  | 1, _ => rfl
  | 2, _ => rfl
  | 3, _ => rfl
  | 4, _ => rfl
  | 5, _ => rfl
  | 6, _ => rfl
  | 7, _ => rfl
  | 8, _ => rfl
  | 9, _ => rfl
  | 10, _ => rfl
theorem fl_get {z b a ci j : Nat} (hj : j < nF ci) : (fl z b h a ci)[j]? = some (fvl z b h a j (tyF ci j)) := by
  unfold fl
  rw [List.getElem?_map, List.getElem?_range hj]
  rfl
theorem fl_len {z b a ci : Nat} : (fl z b h a ci).length = nF ci := by simp [fl]
/-- the field j of an object: any kind of value -/
theorem Sm.getF {a ci j i : Nat} {own n t : String} {f : Bool} {r : vw_C} {v : Value} (hk : isO h a ci) (hci : ci < 10) (hr : vwCl[ci]? = some r) (hj : j < nF ci) (hT : r.2.1 j = (r.1, n, t, f)) (ho : G.1.cls = own) (hw : Cond.fieldLink own i r.1 n t ∈ lw_tbl) (d : decode G.2.1 pc = .ok (.getfield i, 3)) (hq : pc + 3 = q)
    (hv : ∀ z b, fvl z b h a j (tyF ci j) = cv z b v) (k : Sm rv G q lv (v :: st) h e) : Sm rv G pc lv (.ref a :: st) h e := by
  refine k.liftR fun D dA z b p l e0 R s m args below meth c H locs cells slots Q ls hx hb hown hts hK hR hS hbz hz kk => ?_
  subst hq
  obtain ⟨r', g1, g2, g3, g4, g5⟩ := vwCl_at hci
  cases hr.symm.trans g1
  have he : (wsO z b dA h)[a - 1]? = some (ad z b a, .inr (ci, fl z b h a ci)) := by rw [wsO_get hk.2.1 hk.2.2, ce_ob hci hk.1]
  refine va_get (D := D) (C := r.1) (T := r.2.1) (N := r.2.2) (own := own) (ref := r.1) hx hb hts g3 (by rw [← ho]; exact hown) hK hR.2.1 (a - 1) he hr j (by rw [g2]; exact hj) ?_ (fun x h9 => by rw [hT] at h9 ⊢; exact h9) (fl_get hj) d ?_
  · rw [hT]; exact hts _ (tbg hw rfl)
  · rw [hv z b]; exact kk
theorem fvl_int {z b a j : Nat} {ty : FieldType} (ht : ty = .int ∨ ty = .boolean) : fvl z b h a j ty = .int (gI h a j) := by
  rcases ht with rfl | rfl <;> rfl
theorem Sm.getI {a ci j i : Nat} {own n t : String} {f : Bool} {r : vw_C} (hk : isO h a ci) (d : decode G.2.1 pc = .ok (.getfield i, 3)) (hw : Cond.fieldLink own i r.1 n t ∈ lw_tbl) (ho : G.1.cls = own) (hci : ci < 10) (hr : vwCl[ci]? = some r) (hj : j < nF ci) (hT : r.2.1 j = (r.1, n, t, f)) (ht : tyF ci j = .int ∨ tyF ci j = .boolean) (hq : pc + 3 = q)
    (k : Sm rv G q lv (.int (gI h a j) :: st) h e) : Sm rv G pc lv (.ref a :: st) h e := Sm.getF hk hci hr hj hT ho hw d hq (fun z b => fvl_int ht) k
theorem Sm.getL {a ci j i : Nat} {own n t : String} {f : Bool} {r : vw_C} (hk : isO h a ci) (d : decode G.2.1 pc = .ok (.getfield i, 3)) (hw : Cond.fieldLink own i r.1 n t ∈ lw_tbl) (ho : G.1.cls = own) (hci : ci < 10) (hr : vwCl[ci]? = some r) (hj : j < nF ci) (hT : r.2.1 j = (r.1, n, t, f)) (ht : tyF ci j = .long) (hq : pc + 3 = q)
    (k : Sm rv G q lv (.long (gL h a j) :: st) h e) : Sm rv G pc lv (.ref a :: st) h e := Sm.getF hk hci hr hj hT ho hw d hq (fun z b => by rw [ht]; rfl) k
def isRf : FieldType → Bool
  | .object _ => true
  | .array _ => true
  | _ => false
theorem fvl_ref {z b a j x : Nat} {ty : FieldType} (ht : isRf ty = true) (hp : gP h a j = some x) : fvl z b h a j ty = cv z b (.ref x) := by
  cases ty <;> first | (unfold fvl; rw [hp]; rfl) | cases ht
theorem Sm.getP {a ci j i : Nat} {own n t : String} {f : Bool} {r : vw_C} {e : Nat → Option (ρ × Hp)} (hk : isO h a ci) (d : decode G.2.1 pc = .ok (.getfield i, 3)) (hw : Cond.fieldLink own i r.1 n t ∈ lw_tbl) (ho : G.1.cls = own) (hci : ci < 10) (hr : vwCl[ci]? = some r) (hj : j < nF ci) (hT : r.2.1 j = (r.1, n, t, f)) (ht : isRf (tyF ci j) = true) (hq : pc + 3 = q)
    (k : ∀ x, Sm rv G q lv (.ref x :: st) h (e x)) : Sm rv G pc lv (.ref a :: st) h ((gP h a j).bind e) := by
  cases hp : gP h a j with
  | none => exact Sm.none
  | some x => exact Sm.getF hk hci hr hj hT ho hw d hq (fun z b => fvl_ref ht hp) (k x)
theorem ce_far {z b : Nat} {dA : Nat → ClassId} {k : Nat} (hS : gS h1 k = gS h k) (hI : gI h1 k = gI h k) (hL : gL h1 k = gL h k) (hP : gP h1 k = gP h k) : ce z b dA h1 k = ce z b dA h k := by
  have e : ∀ ci, fl z b h1 k ci = fl z b h k ci := fun ci => by
    unfold fl
    apply List.map_congr_left
    intro j _
    unfold fvl
    rw [hI, hL, hP]
  unfold ce
  simp only [hS, hI, hL, hP, e]
theorem up2_ne {α : Type} {f : Nat → Nat → α} {a k q : Nat} {x : α} (h : q ≠ a) : up2 f a k x q = f q := if_neg h
theorem up2_eq {α : Type} {f : Nat → Nat → α} {a k : Nat} {x : α} : up2 f a k x a = va_up (f a) k x := if_pos rfl
theorem set_map {α β : Type} {f g : α → β} {l : List α} {j : Nat} {x : β} (hx : ∀ a, l[j]? = some a → x = g a) (hne : ∀ k a, k ≠ j → l[k]? = some a → f a = g a) : (l.map f).set j x = l.map g := by
  apply List.ext_getElem?
  intro k
  rw [List.getElem?_set]
  by_cases hk : j = k
  · subst hk
    rw [if_pos rfl]
    simp only [List.length_map, List.getElem?_map]
    cases hl : l[j]? with
    | none =>
      have := List.getElem?_eq_none_iff.mp hl
      rw [if_neg (by omega)]
      rfl
    | some a =>
      have := (List.getElem?_eq_some_iff.mp hl).1
      rw [if_pos this, hx a hl]
      rfl
  · rw [if_neg hk]
    simp only [List.getElem?_map]
    cases hl : l[k]? with
    | none => rfl
    | some a => simp only [Option.map_some]; rw [hne k a (fun e => hk e.symm) hl]
/-- a field's change in the list of an object's fields -/
theorem fl_set {z b a ci j : Nat} {v : Value} (hx : v = fvl z b h1 a j (tyF ci j)) (hne : ∀ k, k ≠ j → fvl z b h a k (tyF ci k) = fvl z b h1 a k (tyF ci k)) : (fl z b h a ci).set j v = fl z b h1 a ci := by
  refine set_map (fun q hq => ?_) (fun k q hk hq => ?_)
  · have : q = j := by have := List.getElem?_eq_some_iff.mp hq; obtain ⟨h1, h2⟩ := this; rw [List.getElem_range] at h2; exact h2.symm
    rw [this]; exact hx
  · have : q = k := by have := List.getElem?_eq_some_iff.mp hq; obtain ⟨h1, h2⟩ := this; rw [List.getElem_range] at h2; exact h2.symm
    rw [this]; exact hne k hk
/-- the field j of an object is written: any kind of value; a field that is final only in a constructor -/
theorem Sm.putF {a ci j i : Nat} {own n t : String} {f : Bool} {r : vw_C} {v : Value} (hk : isO h a ci) (hci : ci < 10) (hr : vwCl[ci]? = some r) (hj : j < nF ci) (hT : r.2.1 j = (r.1, n, t, f)) (ho : G.1.cls = own) (hw : Cond.fieldLink own i r.1 n t ∈ lw_tbl) (d : decode G.2.1 pc = .ok (.putfield i, 3)) (hq : pc + 3 = q)
    (hf : f = false ∨ (G.1.name = "<init>" ∧ r.1 = own)) (hnar : ∀ z b, narrow (tyF ci j) (cv z b v) = cv z b v) (hfit : ∀ z b, fits (tyF ci j) (cv z b v) = true) (hS1 : gS h1 = gS h) (hn : gN h1 = gN h) (ht : gT h1 = gT h) (hI : ∀ k, k ≠ a → gI h1 k = gI h k) (hL : ∀ k, k ≠ a → gL h1 k = gL h k) (hP : ∀ k, k ≠ a → gP h1 k = gP h k)
    (hv : ∀ z b, cv z b v = fvl z b h1 a j (tyF ci j)) (hne : ∀ z b k, k ≠ j → fvl z b h a k (tyF ci k) = fvl z b h1 a k (tyF ci k)) (k : Sm rv G q lv st h1 e) : Sm rv G pc lv (v :: .ref a :: st) h e := by
  refine k.liftW (a := a) hk.2.1 hk.2.2 hn ht (by rw [hS1]) (hI 0 (by have := hk.2.1; omega)) (fun z b dA k hka => ce_far (by rw [hS1]) (hI k hka) (hL k hka) (hP k hka)) fun D dA z b p l e0 R s m args below meth c H locs cells slots Q ls hx hb hown hts hK hP hD hS hname kk => ?_
  subst hq
  obtain ⟨r', g1, g2, g3, g4, g5⟩ := vwCl_at hci
  cases hr.symm.trans g1
  have he : (wsO z b dA h)[a - 1]? = some (ad z b a, .inr (ci, fl z b h a ci)) := by rw [wsO_get hk.2.1 hk.2.2, ce_ob hci hk.1]
  have hset : (fl z b h a ci).set j (cv z b v) = fl z b h1 a ci := fl_set (hv z b) (hne z b)
  have hce : ce z b dA h1 a = .inr (ci, fl z b h1 a ci) := ce_ob hci (by rw [hS1]; exact hk.1)
  rw [hce, ← hset] at kk
  have hlk : (Cond.fieldLink own i r.1 (r.2.1 j).2.1 (r.2.1 j).2.2.1).before args s = true := by rw [hT]; exact hts _ (tbg hw rfl)
  have hsm : ∀ x, s.fieldFound? (r.2.1 j).1 (r.2.1 j).2.1 (r.2.1 j).2.2.1 = some x → s.fieldFound? r.1 (r.2.1 j).2.1 (r.2.1 j).2.2.1 = some x := fun x h9 => by rw [hT] at h9 ⊢; exact h9
  rcases Bool.eq_false_or_eq_true f with hf1 | hf1
  · rcases hf with h8 | ⟨h8, h9⟩
    · rw [hf1] at h8; cases h8
    · exact va_putF (D := D) (C := r.1) (T := r.2.1) (N := r.2.2) (own := own) (ref := r.1) hx hb hts g3 (tyF ci) (by rw [g2]; exact g4) (by rw [g2]; exact g5) (by rw [← ho]; exact hown) hK hP hD hS (a - 1) he hr j (by rw [g2]; exact hj) hlk hsm (by rw [hT]; exact hf1) (by rw [hname]; exact h8) (by rw [hT]; exact h9) (g4 j hj) (hnar z b) (hfit z b) (by rw [fl_len]; exact hj) d kk
  · exact va_put (D := D) (C := r.1) (T := r.2.1) (N := r.2.2) (own := own) (ref := r.1) hx hb hts g3 (tyF ci) (by rw [g2]; exact g4) (by rw [g2]; exact g5) (by rw [← ho]; exact hown) hK hP hD hS (a - 1) he hr j (by rw [g2]; exact hj) hlk hsm (by rw [hT]; exact hf1) (g4 j hj) (hnar z b) (hfit z b) (by rw [fl_len]; exact hj) d kk
end SM
