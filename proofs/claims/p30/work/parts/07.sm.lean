/-! THE PICTURE OF THE WORLD: place 0 is the script, the places 1 .. n the world's cells, one behind another -/
abbrev Hp : Type := Nat × Nat × (Nat → Nat × Nat) × (Nat → Nat → Int32) × (Nat → Nat → Int64) × (Nat → Nat → Option Nat)
def gN (h : Hp) : Nat := h.1
def gT (h : Hp) : Nat := h.2.1
def gS (h : Hp) : Nat → Nat × Nat := h.2.2.1
def gI (h : Hp) : Nat → Nat → Int32 := h.2.2.2.1
def gL (h : Hp) : Nat → Nat → Int64 := h.2.2.2.2.1
def gP (h : Hp) : Nat → Nat → Option Nat := h.2.2.2.2.2
def up2 {α : Type} (f : Nat → Nat → α) (a k : Nat) (x : α) : Nat → Nat → α := fun q => if q = a then va_up (f a) k x else f q
def sI (h : Hp) (a k : Nat) (x : Int32) : Hp := (h.1, h.2.1, h.2.2.1, up2 h.2.2.2.1 a k x, h.2.2.2.2.1, h.2.2.2.2.2)
def sL (h : Hp) (a k : Nat) (x : Int64) : Hp := (h.1, h.2.1, h.2.2.1, h.2.2.2.1, up2 h.2.2.2.2.1 a k x, h.2.2.2.2.2)
def sP (h : Hp) (a k : Nat) (x : Option Nat) : Hp := (h.1, h.2.1, h.2.2.1, h.2.2.2.1, h.2.2.2.2.1, up2 h.2.2.2.2.2 a k x)
def row0 {α : Type} (f : Nat → Nat → α) (a : Nat) (x : α) : Nat → Nat → α := fun q => if q = a then (fun _ => x) else f q
/-- a new cell of a kind, of a length, with so many slots -/
def nwc (h : Hp) (kd len sl : Nat) : Hp := (h.1 + 1, h.2.1 + sl, va_up h.2.2.1 (h.1 + 1) (kd, len), row0 h.2.2.2.1 (h.1 + 1) 0, row0 h.2.2.2.2.1 (h.1 + 1) 0, row0 h.2.2.2.2.2 (h.1 + 1) none)
def ad (z b k : Nat) : Nat := if k = 0 then b else z + (k - 1)
theorem ad_pos {z b k : Nat} (h : 1 ≤ k) : ad z b k = z + (k - 1) := if_neg (by omega)
def cv (z b : Nat) : Value → Value
  | .ref k => .ref (ad z b k)
  | v => v
theorem cv_cat (z b : Nat) (v : Value) : (cv z b v).category = v.category := by cases v <;> rfl
def tyF (ci : Nat) : Nat → FieldType := [tyX0, tyX1, tyX2, tyX3, tyX4, tyX5, tyX6, tyX7, tyX8  , tyX9].getD ci (fun _ => .int)
def nF (ci : Nat) : Nat := [10, 1, 3, 10, 4, 5, 1, 6, 3, 8].getD ci 0
def fvl (z b : Nat) (h : Hp) (k j : Nat) (ty : FieldType) : Value := match ty with
  | .long => .long (gL h k j)
  | .object _ => va_rf ((gP h k j).map (ad z b))
  | .array _ => va_rf ((gP h k j).map (ad z b))
  | _ => .int (gI h k j)
def fl (z b : Nat) (h : Hp) (k ci : Nat) : List Value := (List.range (nF ci)).map (fun j => fvl z b h k j (tyF ci j))
def ce (z b : Nat) (dA : Nat → ClassId) (h : Hp) (k : Nat) : va_E := match (gS h k).1 with
  | 20 => .inl (dA 0, (gS h k).2, .inl (gI h k))
  | 21 => .inl (dA 1, (gS h k).2, .inl (gI h k))
  | 22 => .inl (dA 2, (gS h k).2, .inr (.inl (gL h k)))
  | 23 => .inl (dA 3, (gS h k).2, .inr (.inr (.inr (.inr (fun j => (gP h k j).map (ad z b))))))
  | 24 => .inl (dA 4, (gS h k).2, .inr (.inr (.inr (.inr (fun j => (gP h k j).map (ad z b))))))
  | ci => .inr (ci, fl z b h k ci)
def wsO (z b : Nat) (dA : Nat → ClassId) (h : Hp) : va_W := (List.range (gN h)).map (fun k => (z + k, ce z b dA h (k + 1)))
theorem wsO_get {z b : Nat} {dA : Nat → ClassId} {h : Hp} {a : Nat} (h1 : 1 ≤ a) (h2 : a ≤ gN h) : (wsO z b dA h)[a - 1]? = some (ad z b a, ce z b dA h a) := by
  unfold wsO
  rw [List.getElem?_map, List.getElem?_range (by omega)]
  simp only [Option.map_some]
  rw [ad_pos h1, show a - 1 + 1 = a by omega]
theorem wsO_D {z b : Nat} {dA : Nat → ClassId} {h : Hp} : va_D (fun q => z ≤ q) (wsO z b dA h) := by
  have key : ∀ (k : Nat) (q : Nat × va_E), (wsO z b dA h)[k]? = some q → q.1 = z + k := by
    intro k q hk
    unfold wsO at hk
    rw [List.getElem?_map] at hk
    cases hr : (List.range (gN h))[k]? with
    | none => rw [hr] at hk; cases hk
    | some i =>
      rw [hr] at hk
      have e := List.getElem?_eq_some_iff.mp hr
      obtain ⟨hl, e⟩ := e
      rw [List.getElem_range] at e
      subst e
      cases hk
      rfl
  refine ⟨fun i j p q hi hj e => ?_, fun k q hk => ?_⟩
  · have h1 := key i p hi
    have h2 := key j q hj
    omega
  · have h1 := key k q hk
    show z ≤ q.1
    omega
/-- one cell of the world changed -/
theorem wsO_set {z b : Nat} {dA : Nat → ClassId} {h h1 : Hp} {a : Nat} (ha : 1 ≤ a) (hn : gN h1 = gN h) (ho : ∀ k, k ≠ a → ce z b dA h1 k = ce z b dA h k) : (wsO z b dA h).set (a - 1) (ad z b a, ce z b dA h1 a) = wsO z b dA h1 := by
  apply List.ext_getElem?
  intro k
  rw [List.getElem?_set]
  by_cases hk : a - 1 = k
  · subst hk
    rw [if_pos rfl]
    unfold wsO
    simp only [List.length_map, List.length_range, List.getElem?_map, hn]
    by_cases hl : a - 1 < gN h
    · rw [if_pos hl, List.getElem?_range hl]
      simp only [Option.map_some]
      rw [ad_pos ha, show a - 1 + 1 = a by omega]
    · rw [if_neg hl, List.getElem?_eq_none (by simp; omega)]
      rfl
  · rw [if_neg hk]
    unfold wsO
    simp only [List.getElem?_map, hn]
    by_cases hl : k < gN h
    · rw [List.getElem?_range hl]
      simp only [Option.map_some]
      rw [ho (k + 1) (by omega)]
    · rw [List.getElem?_eq_none (by simp; omega)]
      rfl
/-- one cell more -/
theorem wsO_push {z b : Nat} {dA : Nat → ClassId} {h h1 : Hp} (hn : gN h1 = gN h + 1) (ho : ∀ k, k ≤ gN h → ce z b dA h1 k = ce z b dA h k) : wsO z b dA h ++ [(z + gN h, ce z b dA h1 (gN h + 1))] = wsO z b dA h1 := by
  unfold wsO
  rw [hn, List.range_succ, List.map_append]
  congr 1
  apply List.map_congr_left
  intro k hk
  rw [ho (k + 1) (by have := List.mem_range.mp hk; omega)]
def tysA (dA : Nat → ClassId) : List (ClassId × FieldType) := [(dA 0, .int), (dA 1, .boolean), (dA 2, .long), (dA 3, .object RX7), (dA 4, .object RX4)]
def Rep (z b : Nat) (D : va_G) (dA : Nat → ClassId) (s : State) (h : Hp) (H : Heap) : Prop := H.size = z + gN h ∧ va_P D vwCl (wsO z b dA h) H ∧ va_X b (gS h 0).2 (gI h 0) s H
def TBg : List Cond := lw_tbl.filter goodWord
theorem tbg {w : Cond} (h : w ∈ lw_tbl) (g : goodWord w = true) : w ∈ TBg := List.mem_filter.mpr ⟨h, g⟩
def NWq : Cond → Bool
  | .methodLinkNest .. => true
  | _ => false
def NW : List Cond := lw_tbl.filter NWq
def NWok (U : State) : Prop := (∀ w ∈ NW, va_Nw w U) ∧ va_AO RX7 U ∧ va_AO RX4 U
theorem NWok.moved {s U : State} (hW : s.WarmedH U.vm) (h : NWok s) : NWok U := by
  refine ⟨fun w hw => ?_, h.2.1.moved hW.alike, h.2.2.moved hW.alike⟩
  have h1 := h.1 w hw
  have hq := (List.mem_filter.mp hw).2
  cases w with
  | methodLinkNest a i x g => exact va_Nw.warmM hW h1
  | _ => cases hq
theorem NWok.same {s U : State} (hv : s.vm = U.vm) (h : NWok s) : NWok U := by
  refine ⟨fun w hw => ?_, h.2.1.moved (by rw [hv]; exact Vm.Alike.refl U.vm), h.2.2.moved (by rw [hv]; exact Vm.Alike.refl U.vm)⟩
  have h1 := h.1 w hw
  have hq := (List.mem_filter.mp hw).2
  cases w with
  | methodLinkNest a i x g => exact va_Nw.same rfl hv h1
  | _ => cases hq
theorem nwi {w : Cond} (h : w ∈ lw_tbl) (g : NWq w = true) : w ∈ NW := List.mem_filter.mpr ⟨h, g⟩
/-! locals -/
def LR (z b : Nat) (ls : Array Slot) (n : Nat) (lv : List Value) : Prop := ls.size = n ∧ lv_wf ls ∧ lv.length = n ∧ ∀ (i : Nat) (v : Value), lv[i]? = some v → v ≠ .null → ls[i]? = some (.val (cv z b v))
def prs (z b : Nat) (lv : List Value) : List (Nat × Value) := (List.range lv.length).filterMap (fun (i : Nat) => (match lv[i]? with
  | some Value.null => none
  | some v => some (i, cv z b v)
  | none => none : Option (Nat × Value)))
theorem mem_prs {z b : Nat} {lv : List Value} {i : Nat} {v : Value} (h : lv[i]? = some v) (hv : v ≠ .null) : (i, cv z b v) ∈ prs z b lv := by
  refine List.mem_filterMap.mpr ⟨i, List.mem_range.mpr (List.getElem?_eq_some_iff.mp h).1, ?_⟩
  rw [h]
  cases v <;> first | rfl | exact absurd rfl hv
theorem LR.has {z b : Nat} {ls : Array Slot} {n : Nat} {lv : List Value} (h : LR z b ls n lv) : lv_has ls n (prs z b lv) := by
  refine ⟨h.1, h.2.1, fun q hq => ?_⟩
  obtain ⟨i, -, hi⟩ := List.mem_filterMap.mp hq
  cases hv : lv[i]? with
  | none => rw [hv] at hi; cases hi
  | some v =>
    rw [hv] at hi
    have hn : v ≠ .null := fun e => by rw [e] at hi; cases hi
    have e : q = (i, cv z b v) := by cases v <;> first | exact (Option.some.inj hi).symm | exact absurd rfl hn
    rw [e]
    exact h.2.2.2 i v hv hn
theorem LR.at {z b : Nat} {ls : Array Slot} {n : Nat} {lv : List Value} (h : LR z b ls n lv) {i : Nat} {v : Value} (hv : lv[i]? = some v) (hn : v ≠ .null) : ls[i]? = some (.val (cv z b v)) := h.2.2.2 i v hv hn
def kil (i : Nat) (lv : List Value) : List Value := match i with
  | 0 => lv
  | j + 1 => match lv[j]? with
    | some (.long _) => lv.set j .null
    | some (.double _) => lv.set j .null
    | _ => lv
def st1 (i : Nat) (v : Value) (lv : List Value) : List Value := (kil i lv).set i v
def st2 (i : Nat) (v : Value) (lv : List Value) : List Value := ((kil i lv).set i v).set (i + 1) .null
theorem kil_len (i : Nat) (lv : List Value) : (kil i lv).length = lv.length := by
  unfold kil
  cases i with
  | zero => rfl
  | succ j =>
    dsimp only
    split <;> simp
theorem set_null {lv : List Value} {j k : Nat} {v : Value} (h : (lv.set j .null)[k]? = some v) (hn : v ≠ .null) : lv[k]? = some v ∧ k ≠ j := by
  rw [List.getElem?_set] at h
  by_cases hk : j = k
  · rw [if_pos hk] at h
    split at h
    · exact absurd (Option.some.inj h).symm hn
    · cases h
  · rw [if_neg hk] at h
    exact ⟨h, fun e => hk e.symm⟩
/-- what the killed list still holds is held by the list, and is no long just ahead -/
theorem kil_get {i k : Nat} {lv : List Value} {v : Value} (h : (kil i lv)[k]? = some v) (hn : v ≠ .null) : lv[k]? = some v ∧ ¬ (k + 1 = i ∧ v.category = 2) := by
  unfold kil at h
  cases i with
  | zero => exact ⟨h, fun e => by omega⟩
  | succ j =>
    dsimp only at h
    split at h
    next x hx =>
      obtain ⟨h1, h2⟩ := set_null h hn
      exact ⟨h1, fun e => h2 (by omega)⟩
    next x hx =>
      obtain ⟨h1, h2⟩ := set_null h hn
      exact ⟨h1, fun e => h2 (by omega)⟩
    next hx1 hx2 =>
      refine ⟨h, fun e => ?_⟩
      obtain ⟨e1, e2⟩ := e
      have e3 : k = j := by omega
      subst e3
      cases v <;> first | exact hx1 _ h | exact hx2 _ h | (simp [Value.category] at e2)
theorem LR.st1 {z b : Nat} {ls ls' : Array Slot} {n i : Nat} {lv : List Value} {v : Value} (h : LR z b ls n lv) (hi : i < n)
    (h' : lv_has ls' n ((i, cv z b v) :: (prs z b lv).filter (fun q => !(q.1 == i) && !(q.1 + 1 == i && q.2.category == 2)))) : LR z b ls' n (st1 i v lv) := by
  refine ⟨h'.1, h'.2.1, by rw [Jvm.Pilot.@@N@@.st1, List.length_set, kil_len]; exact h.2.2.1, fun k w hk hn => ?_⟩
  refine h'.2.2 (k, cv z b w) ?_
  rw [Jvm.Pilot.@@N@@.st1, List.getElem?_set] at hk
  by_cases he : i = k
  · rw [if_pos he] at hk
    split at hk
    · cases hk
      subst he
      exact List.mem_cons_self
    · cases hk
  · rw [if_neg he] at hk
    obtain ⟨h1, h2⟩ := kil_get hk hn
    refine List.mem_cons_of_mem _ (List.mem_filter.mpr ⟨mem_prs h1 hn, ?_⟩)
    have a1 : (k == i) = false := by simp; omega
    have a2 : (k + 1 == i && (cv z b w).category == 2) = false := by
      rw [cv_cat]
      cases h3 : (k + 1 == i && w.category == 2) with
      | false => rfl
      | true => exact absurd (by simpa using h3) h2
    simp only [a1, a2]
    rfl
theorem LR.st2 {z b : Nat} {ls ls' : Array Slot} {n i : Nat} {lv : List Value} {v : Value} (h : LR z b ls n lv) (hi : i + 1 < n)
    (h' : lv_has ls' n ((i, cv z b v) :: (prs z b lv).filter (fun q => !(q.1 == i) && (!(q.1 == i + 1) && !(q.1 + 1 == i && q.2.category == 2))))) : LR z b ls' n (st2 i v lv) := by
  refine ⟨h'.1, h'.2.1, by rw [Jvm.Pilot.@@N@@.st2, List.length_set, List.length_set, kil_len]; exact h.2.2.1, fun k w hk hn => ?_⟩
  refine h'.2.2 (k, cv z b w) ?_
  rw [Jvm.Pilot.@@N@@.st2] at hk
  obtain ⟨hk, hk1⟩ := set_null hk hn
  rw [List.getElem?_set] at hk
  by_cases he : i = k
  · rw [if_pos he] at hk
    split at hk
    · cases hk
      subst he
      exact List.mem_cons_self
    · cases hk
  · rw [if_neg he] at hk
    obtain ⟨h1, h2⟩ := kil_get hk hn
    refine List.mem_cons_of_mem _ (List.mem_filter.mpr ⟨mem_prs h1 hn, ?_⟩)
    have a1 : (k == i) = false := by simp; omega
    have a3 : (k == i + 1) = false := by simp; omega
    have a2 : (k + 1 == i && (cv z b w).category == 2) = false := by
      rw [cv_cat]
      cases h3 : (k + 1 == i && w.category == 2) with
      | false => rfl
      | true => exact absurd (by simpa using h3) h2
    simp only [a1, a2, a3]
    rfl
/-- fewer locals -/
def Wk : List Value → List Value → Prop
  | [], [] => True
  | a :: l, c :: r => (a = .null ∨ a = c) ∧ Wk l r
  | _, _ => False
theorem Wk.get : ∀ {l r : List Value}, Wk l r → l.length = r.length ∧ ∀ (i : Nat) (v : Value), l[i]? = some v → v ≠ .null → r[i]? = some v
  | [], [], _ => ⟨rfl, fun i v h => by simp at h⟩
  | a :: l, c :: r, h => by
    obtain ⟨h1, h2⟩ := Wk.get h.2
    refine ⟨by simp [h1], fun i v hv hn => ?_⟩
    cases i with
    | zero =>
      simp only [List.getElem?_cons_zero] at hv ⊢
      cases hv
      rcases h.1 with e | e
      · exact absurd e hn
      · rw [e]
    | succ i =>
      simp only [List.getElem?_cons_succ] at hv ⊢
      exact h2 i v hv hn
  | [], _ :: _, h => h.elim
  | _ :: _, [], h => h.elim
theorem LR.wk {z b : Nat} {ls : Array Slot} {n : Nat} {lv lv' : List Value} (h : LR z b ls n lv) (hw : Wk lv' lv) : LR z b ls n lv' :=
  ⟨h.1, h.2.1, hw.get.1.trans h.2.2.1, fun i v hv hn => h.2.2.2 i v (hw.get.2 i v hv hn) hn⟩
/-! how a method begins: its arguments in the locals -/
def exps : List Value → List Value
  | [] => []
  | .long x :: t => .long x :: .null :: exps t
  | v :: t => v :: exps t
def ent (n : Nat) (as : List Value) : List Value := exps as ++ List.replicate (n - (exps as).length) .null
theorem exps_get {z b : Nat} : ∀ (as : List Value) (o i : Nat) (v : Value), (∀ a ∈ as, ∀ x, a ≠ .double x) → (exps as)[i]? = some v → v ≠ .null → (o + i, cv z b v) ∈ lv_args o (as.map (cv z b))
  | [], o, i, v, _, h, _ => by simp [exps] at h
  | a :: t, o, i, v, hd, h, hn => by
    have hd2 : ∀ a ∈ t, ∀ x, a ≠ .double x := fun a ha => hd a (List.mem_cons_of_mem _ ha)
    have hda := hd a List.mem_cons_self
    by_cases hl : ∃ x, a = .long x
    · obtain ⟨x, rfl⟩ := hl
      rw [exps] at h
      show _ ∈ (o, cv z b (.long x)) :: lv_args (if (cv z b (.long x)).category = 2 then o + 2 else o + 1) (t.map (cv z b))
      rw [if_pos (by rfl)]
      match i, h with
      | 0, h =>
        simp only [List.getElem?_cons_zero] at h
        cases h
        exact List.mem_cons_self
      | 1, h =>
        simp only [List.getElem?_cons_succ, List.getElem?_cons_zero] at h
        exact absurd (Option.some.inj h).symm hn
      | i + 2, h =>
        simp only [List.getElem?_cons_succ] at h
        have := exps_get (z := z) (b := b) t (o + 2) i v hd2 h hn
        rw [show o + (i + 2) = o + 2 + i by omega]
        exact List.mem_cons_of_mem _ this
    · have e : exps (a :: t) = a :: exps t := by
        cases a <;> first | rfl | exact absurd ⟨_, rfl⟩ hl
      rw [e] at h
      show _ ∈ (o, cv z b a) :: lv_args (if (cv z b a).category = 2 then o + 2 else o + 1) (t.map (cv z b))
      have hc : ¬ (cv z b a).category = 2 := fun h2 => by
        rw [cv_cat] at h2
        cases a <;> first | exact hl ⟨_, rfl⟩ | exact hda _ rfl | (simp [Value.category] at h2)
      rw [if_neg hc]
      match i, h with
      | 0, h =>
        simp only [List.getElem?_cons_zero] at h
        cases h
        exact List.mem_cons_self
      | i + 1, h =>
        simp only [List.getElem?_cons_succ] at h
        have := exps_get (z := z) (b := b) t (o + 1) i v hd2 h hn
        rw [show o + (i + 1) = o + 1 + i by omega]
        exact List.mem_cons_of_mem _ this
theorem exps_sl {z b : Nat} : ∀ (as : List Value), (∀ a ∈ as, ∀ x, a ≠ .double x) → (lg_sl (as.map (cv z b))).length = (exps as).length
  | [], _ => rfl
  | a :: t, hd => by
    have ih := exps_sl (z := z) (b := b) t (fun a ha => hd a (List.mem_cons_of_mem _ ha))
    have hda := hd a List.mem_cons_self
    have e1 : lg_sl ((a :: t).map (cv z b)) = (if (cv z b a).category = 2 then [.val (cv z b a), .second] else [.val (cv z b a)]) ++ lg_sl (t.map (cv z b)) := by
      simp [lg_sl]
    rw [e1, List.length_append, ih, cv_cat]
    cases a <;> first | exact absurd rfl (hda _) | (simp [exps, Value.category]; try omega)
theorem LR.ent {z b n : Nat} {as : List Value} (hd : ∀ a ∈ as, ∀ x, a ≠ .double x) (hn : (exps as).length ≤ n) :
    LR z b ((lg_sl (as.map (cv z b)) ++ List.replicate (n - (lg_sl (as.map (cv z b))).length) Slot.unset).toArray) n (Jvm.Pilot.@@N@@.ent n as) := by
  have he := lv_entry (as.map (cv z b)) (n := n) (by rw [exps_sl as hd]; exact hn)
  refine ⟨he.1, he.2.1, by simp [Jvm.Pilot.@@N@@.ent]; omega, fun i v hv hnn => ?_⟩
  refine he.2.2 (i, cv z b v) ?_
  have h1 : (exps as)[i]? = some v := by
    unfold Jvm.Pilot.@@N@@.ent at hv
    by_cases hl : i < (exps as).length
    · rwa [List.getElem?_append_left hl] at hv
    · rw [List.getElem?_append_right (by omega), List.getElem?_replicate] at hv
      split at hv
      · exact absurd (Option.some.inj hv).symm hnn
      · cases hv
  have := exps_get (z := z) (b := b) as 0 i v hd h1 hnn
  rwa [Nat.zero_add] at this
