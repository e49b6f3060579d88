theorem W.sized {p : Program} {l : Launch} {e : Env} {R : Room} {s : State} {m : MethodId} {args : Array Value} {below : List Frame} {meth : Method} {c : Code} {H : Heap} {locs : List Loc} {cells slots : Nat} {Q : State → Prop} {g : JFrame}
    (k : H.size ≤ s.heap.size + cells → W p l e R s m args below meth c H locs cells slots Q g) : W p l e R s m args below meth c H locs cells slots Q g :=
  fun T hT X => k (by rw [← hT]; exact X.heapSize) T hT X
/-- a method as the walk knows it: its name, its code, its locals, what it returns, how deep it goes -/
abbrev Gx : Type := MethodName × ByteArray × Nat × Option FieldType × Nat
def Cx (G : Gx) (D : va_G) (dA : Nat → ClassId) (z b c0 : Nat) (p : Program) (R : Room) (s : State) (m : MethodId) (args : Array Value) (meth : Method) (c : Code) : Prop :=
  p.tables.exec = Jvm.exec ∧ c.code = G.2.1 ∧ c.maxLocals = G.2.2.1 ∧ s.vm.findClass G.1.cls = some m.cls ∧ (∀ w ∈ TBg, w.before args s = true) ∧ meth.name = G.1.name ∧ va_K D vwCl (tysA dA) s ∧ NWok s ∧ s.heap.size = z + c0 ∧ b < z ∧ G.2.2.2.2 ≤ R.frames ∧ 40 * G.2.2.2.2 ≤ R.locals
def retI : Option FieldType → Instr
  | none => .return_
  | some .long => .lreturn
  | some (.object _) => .areturn
  | some (.array _) => .areturn
  | _ => .ireturn
def okR : Option FieldType → Option Value → Prop
  | none, none => True
  | some .int, some (.int _) => True
  | some .boolean, some (.int x) => x = 0 ∨ x = 1
  | some .long, some (.long _) => True
  | some (.object _), some (.ref _) => True
  | _, _ => False
/-- the method's return, at which the walk ends -/
def Rt {ρ : Type} (rv : ρ → Option Value) (G : Gx) (r : ρ) (h' : Hp) (D : va_G) (dA : Nat → ClassId) (z b c0 t0 : Nat) (p : Program) (l : Launch) (e0 : Env) (R : Room) (s : State) (m : MethodId) (args : Array Value) (below : List Frame) (meth : Method) (c : Code) (Q : State → Prop) : Prop :=
  okR G.2.2.2.1 (rv r) → ∀ (H : Heap) (locs : List Loc) (ls : Array Slot) (pc : Nat), decode G.2.1 pc = .ok (retI G.2.2.2.1, 1) → Rep z b D dA s h' H → va_S (fun q => z ≤ q) s.heap H locs →
    W p l e0 R s m args below meth c H locs (gN h' - c0) (gT h' - t0) Q (F0 m pc ls ((rv r).toList.map (cv z b)))
/-- THE WALK FROM HERE: if the mirror e comes to an answer, so does the machine, with the same answer and the same world -/
def Sm {ρ : Type} (rv : ρ → Option Value) (G : Gx) (pc : Nat) (lv st : List Value) (h : Hp) (e : Option (ρ × Hp)) : Prop :=
  ∀ (r : ρ) (h' : Hp), e = some (r, h') → (okR G.2.2.2.1 (rv r) ∧ gN h ≤ gN h') ∧ gT h ≤ gT h' ∧
    ∀ (D : va_G) (dA : Nat → ClassId) (z b c0 t0 : Nat) (p : Program) (l : Launch) (e0 : Env) (R : Room) (s : State) (m : MethodId) (args : Array Value) (below : List Frame) (meth : Method) (c : Code) (Q : State → Prop),
      Cx G D dA z b c0 p R s m args meth c → gN h' - c0 ≤ R.cells → gT h' - t0 ≤ R.slots → Rt rv G r h' D dA z b c0 t0 p l e0 R s m args below meth c Q → c0 ≤ gN h → t0 ≤ gT h →
      ∀ (H : Heap) (locs : List Loc) (ls : Array Slot), LR z b ls G.2.2.1 lv → Rep z b D dA s h H → va_S (fun q => z ≤ q) s.heap H locs →
        W p l e0 R s m args below meth c H locs (gN h - c0) (gT h - t0) Q (F0 m pc ls (st.map (cv z b)))
section SM
variable {ρ : Type} {rv : ρ → Option Value} {G : Gx} {pc q : Nat} {lv lv' st st' : List Value} {h : Hp} {e e1 e2 : Option (ρ × Hp)}
/-- a step that leaves the world as it is -/
theorem Sm.lift (k : Sm rv G q lv' st' h e)
    (hs : ∀ (z b : Nat) (p : Program) (l : Launch) (e0 : Env) (R : Room) (s : State) (m : MethodId) (args : Array Value) (below : List Frame) (meth : Method) (c : Code) (H : Heap) (locs : List Loc) (cells slots : Nat) (Q : State → Prop) (ls : Array Slot),
      p.tables.exec = Jvm.exec → c.code = G.2.1 → s.vm.findClass G.1.cls = some m.cls → (∀ w ∈ TBg, w.before args s = true) → LR z b ls G.2.2.1 lv →
      (∀ ls', LR z b ls' G.2.2.1 lv' → W p l e0 R s m args below meth c H locs cells slots Q (F0 m q ls' (st'.map (cv z b)))) →
      W p l e0 R s m args below meth c H locs cells slots Q (F0 m pc ls (st.map (cv z b)))) : Sm rv G pc lv st h e := by
  intro r h' he
  obtain ⟨k1, k2, k3⟩ := k r h' he
  refine ⟨k1, k2, fun D dA z b c0 t0 p l e0 R s m args below meth c Q C hc hs' hr h0 h1 H locs ls hl hR hS => ?_⟩
  exact hs z b p l e0 R s m args below meth c H locs _ _ Q ls C.1 C.2.1 C.2.2.2.1 C.2.2.2.2.1 hl (fun ls' hl' => k3 D dA z b c0 t0 p l e0 R s m args below meth c Q C hc hs' hr h0 h1 H locs ls' hl' hR hS)
theorem Sm.none : Sm rv G pc lv st h none := fun _ _ he => by cases he
theorem Sm.wk (k : Sm rv G pc lv' st h e) (hw : Wk lv' lv) : Sm rv G pc lv st h e := by
  intro r h' he
  obtain ⟨k1, k2, k3⟩ := k r h' he
  exact ⟨k1, k2, fun D dA z b c0 t0 p l e0 R s m args below meth c Q C hc hs hr h0 h1 H locs ls hl hR hS => k3 D dA z b c0 t0 p l e0 R s m args below meth c Q C hc hs hr h0 h1 H locs ls (hl.wk hw) hR hS⟩
theorem Sm.ret {r : ρ} (d : decode G.2.1 pc = .ok (retI G.2.2.2.1, 1)) (ho : okR G.2.2.2.1 (rv r)) (hst : st = (rv r).toList) : Sm rv G pc lv st h (some (r, h)) := by
  intro r' h' he
  cases he
  subst hst
  exact ⟨⟨ho, Nat.le_refl _⟩, Nat.le_refl _, fun D dA z b c0 t0 p l e0 R s m args below meth c Q C hc hs hr h0 h1 H locs ls hl hR hS => hr ho H locs ls pc d hR hS⟩
theorem Sm.iff {P : Prop} {i : Decidable P} (a : P → Sm rv G pc lv st h e1) (c : ¬ P → Sm rv G pc lv st h e2) : Sm rv G pc lv st h (if P then e1 else e2) := by
  by_cases hP : P
  · rw [if_pos hP]; exact a hP
  · rw [if_neg hP]; exact c hP
/-! loads, stores, constants -/
theorem Sm.iload_n {k : Fin 4} {i : Nat} {x : Int32} (d : decode G.2.1 pc = .ok (.iload_n k, 1)) (hi : (k : Nat) = i) (hv : lv[i]? = some (.int x)) (hq : pc + 1 = q) (k : Sm rv G q lv (.int x :: st) h e) : Sm rv G pc lv st h e :=
  k.lift fun z b p l e0 R s m args below meth c H locs cells slots Q ls hx hb _ _ hl kk => by subst hq; exact lv_iload_n hx hb d hi (hl.at hv (fun z => by cases z)) (kk ls hl)
theorem Sm.iload {i : Nat} {x : Int32} (d : decode G.2.1 pc = .ok (.iload i, 2)) (hv : lv[i]? = some (.int x)) (hq : pc + 2 = q) (k : Sm rv G q lv (.int x :: st) h e) : Sm rv G pc lv st h e :=
  k.lift fun z b p l e0 R s m args below meth c H locs cells slots Q ls hx hb _ _ hl kk => by subst hq; exact lv_iload hx hb d (hl.at hv (fun z => by cases z)) (kk ls hl)
theorem Sm.lload_n {k : Fin 4} {i : Nat} {x : Int64} (d : decode G.2.1 pc = .ok (.lload_n k, 1)) (hi : (k : Nat) = i) (hv : lv[i]? = some (.long x)) (hq : pc + 1 = q) (k : Sm rv G q lv (.long x :: st) h e) : Sm rv G pc lv st h e :=
  k.lift fun z b p l e0 R s m args below meth c H locs cells slots Q ls hx hb _ _ hl kk => by subst hq; exact lv_lload_n hx hb d hi (hl.at hv (fun z => by cases z)) (kk ls hl)
theorem Sm.lload {i : Nat} {x : Int64} (d : decode G.2.1 pc = .ok (.lload i, 2)) (hv : lv[i]? = some (.long x)) (hq : pc + 2 = q) (k : Sm rv G q lv (.long x :: st) h e) : Sm rv G pc lv st h e :=
  k.lift fun z b p l e0 R s m args below meth c H locs cells slots Q ls hx hb _ _ hl kk => by subst hq; exact lv_lload hx hb d (hl.at hv (fun z => by cases z)) (kk ls hl)
theorem Sm.aload_n {k : Fin 4} {i : Nat} {x : Nat} (d : decode G.2.1 pc = .ok (.aload_n k, 1)) (hi : (k : Nat) = i) (hv : lv[i]? = some (.ref x)) (hq : pc + 1 = q) (k : Sm rv G q lv (.ref x :: st) h e) : Sm rv G pc lv st h e :=
  k.lift fun z b p l e0 R s m args below meth c H locs cells slots Q ls hx hb _ _ hl kk => by subst hq; exact lv_aload_n hx hb d hi (hl.at hv (fun z => by cases z)) (kk ls hl)
theorem Sm.aload {i : Nat} {x : Nat} (d : decode G.2.1 pc = .ok (.aload i, 2)) (hv : lv[i]? = some (.ref x)) (hq : pc + 2 = q) (k : Sm rv G q lv (.ref x :: st) h e) : Sm rv G pc lv st h e :=
  k.lift fun z b p l e0 R s m args below meth c H locs cells slots Q ls hx hb _ _ hl kk => by subst hq; exact lv_aload hx hb d (hl.at hv (fun z => by cases z)) (kk ls hl)
theorem LR.len {z b : Nat} {ls : Array Slot} {n : Nat} (hl : LR z b ls n lv) : lv.length = n := hl.2.2.1
theorem Sm.istore_n {k : Fin 4} {i : Nat} {x : Int32} (d : decode G.2.1 pc = .ok (.istore_n k, 1)) (hi : (k : Nat) = i) (hn : i < lv.length) (hv : st1 i (.int x) lv = lv') (hq : pc + 1 = q) (k : Sm rv G q lv' st h e) : Sm rv G pc lv (.int x :: st) h e :=
  k.lift fun z b p l e0 R s m args below meth c H locs cells slots Q ls hx hb _ _ hl kk => by subst hq; subst hv; exact lv_istore_n hx hb d hi hl.has (by rw [← hl.len]; exact hn) rfl (fun ls' h' => kk ls' (hl.st1 (by rw [← hl.len]; exact hn) h'))
theorem Sm.istore {i : Nat} {x : Int32} (d : decode G.2.1 pc = .ok (.istore i, 2)) (hn : i < lv.length) (hv : st1 i (.int x) lv = lv') (hq : pc + 2 = q) (k : Sm rv G q lv' st h e) : Sm rv G pc lv (.int x :: st) h e :=
  k.lift fun z b p l e0 R s m args below meth c H locs cells slots Q ls hx hb _ _ hl kk => by subst hq; subst hv; exact lv_istore hx hb d hl.has (by rw [← hl.len]; exact hn) rfl (fun ls' h' => kk ls' (hl.st1 (by rw [← hl.len]; exact hn) h'))
theorem Sm.astore_n {k : Fin 4} {i : Nat} {x : Nat} (d : decode G.2.1 pc = .ok (.astore_n k, 1)) (hi : (k : Nat) = i) (hn : i < lv.length) (hv : st1 i (.ref x) lv = lv') (hq : pc + 1 = q) (k : Sm rv G q lv' st h e) : Sm rv G pc lv (.ref x :: st) h e :=
  k.lift fun z b p l e0 R s m args below meth c H locs cells slots Q ls hx hb _ _ hl kk => by subst hq; subst hv; exact lv_astore_n hx hb d hi hl.has (by rw [← hl.len]; exact hn) rfl (fun ls' h' => kk ls' (hl.st1 (by rw [← hl.len]; exact hn) h'))
theorem Sm.astore {i : Nat} {x : Nat} (d : decode G.2.1 pc = .ok (.astore i, 2)) (hn : i < lv.length) (hv : st1 i (.ref x) lv = lv') (hq : pc + 2 = q) (k : Sm rv G q lv' st h e) : Sm rv G pc lv (.ref x :: st) h e :=
  k.lift fun z b p l e0 R s m args below meth c H locs cells slots Q ls hx hb _ _ hl kk => by subst hq; subst hv; exact lv_astore hx hb d hl.has (by rw [← hl.len]; exact hn) rfl (fun ls' h' => kk ls' (hl.st1 (by rw [← hl.len]; exact hn) h'))
theorem Sm.lstore_n {k : Fin 4} {i : Nat} {x : Int64} (d : decode G.2.1 pc = .ok (.lstore_n k, 1)) (hi : (k : Nat) = i) (hn : i + 1 < lv.length) (hv : st2 i (.long x) lv = lv') (hq : pc + 1 = q) (k : Sm rv G q lv' st h e) : Sm rv G pc lv (.long x :: st) h e :=
  k.lift fun z b p l e0 R s m args below meth c H locs cells slots Q ls hx hb _ _ hl kk => by subst hq; subst hv; exact lv_lstore_n hx hb d hi hl.has (by rw [← hl.len]; exact hn) rfl (fun ls' h' => kk ls' (hl.st2 (by rw [← hl.len]; exact hn) h'))
theorem Sm.lstore {i : Nat} {x : Int64} (d : decode G.2.1 pc = .ok (.lstore i, 2)) (hn : i + 1 < lv.length) (hv : st2 i (.long x) lv = lv') (hq : pc + 2 = q) (k : Sm rv G q lv' st h e) : Sm rv G pc lv (.long x :: st) h e :=
  k.lift fun z b p l e0 R s m args below meth c H locs cells slots Q ls hx hb _ _ hl kk => by subst hq; subst hv; exact lv_lstore hx hb d hl.has (by rw [← hl.len]; exact hn) rfl (fun ls' h' => kk ls' (hl.st2 (by rw [← hl.len]; exact hn) h'))
theorem Sm.iinc {i : Nat} {n : Int} {x y : Int32} (d : decode G.2.1 pc = .ok (.iinc i n, 3)) (hg : lv[i]? = some (.int x)) (hy : Int32.ofInt n = y) (hv : st1 i (.int (x + y)) lv = lv') (hq : pc + 3 = q) (k : Sm rv G q lv' st h e) : Sm rv G pc lv st h e :=
  k.lift fun z b p l e0 R s m args below meth c H locs cells slots Q ls hx hb _ _ hl kk => by
    subst hq; subst hv; subst hy
    have hn := (List.getElem?_eq_some_iff.mp hg).1
    obtain ⟨j, hj⟩ := List.getElem?_of_mem (mem_prs (z := z) (b := b) hg (fun z => by cases z))
    exact lv_iinc hx hb d hl.has hj rfl (by rw [← hl.len]; exact hn) rfl (fun ls' h' => kk ls' (hl.st1 (by rw [← hl.len]; exact hn) h'))
theorem Sm.iconst {n : Int} {v : Int32} (d : decode G.2.1 pc = .ok (.iconst n, 1)) (hv : Int32.ofInt n = v) (hq : pc + 1 = q) (k : Sm rv G q lv (.int v :: st) h e) : Sm rv G pc lv st h e :=
  k.lift fun z b p l e0 R s m args below meth c H locs cells slots Q ls hx hb _ _ hl kk => by subst hq; exact lv_iconst hx hb d hv (kk ls hl)
theorem Sm.bipush {n : Int} {v : Int32} (d : decode G.2.1 pc = .ok (.bipush n, 2)) (hv : (Int8.ofInt n).toInt32 = v) (hq : pc + 2 = q) (k : Sm rv G q lv (.int v :: st) h e) : Sm rv G pc lv st h e :=
  k.lift fun z b p l e0 R s m args below meth c H locs cells slots Q ls hx hb _ _ hl kk => by subst hq; exact lv_bipush hx hb d hv (kk ls hl)
theorem Sm.sipush {n : Int} {v : Int32} (d : decode G.2.1 pc = .ok (.sipush n, 3)) (hv : (Int16.ofInt n).toInt32 = v) (hq : pc + 3 = q) (k : Sm rv G q lv (.int v :: st) h e) : Sm rv G pc lv st h e :=
  k.lift fun z b p l e0 R s m args below meth c H locs cells slots Q ls hx hb _ _ hl kk => by subst hq; exact lv_sipush hx hb d hv (kk ls hl)
theorem Sm.lconst {n : Fin 2} {v : Int64} (d : decode G.2.1 pc = .ok (.lconst n, 1)) (hv : Int64.ofNat (n : Nat) = v) (hq : pc + 1 = q) (k : Sm rv G q lv (.long v :: st) h e) : Sm rv G pc lv st h e :=
  k.lift fun z b p l e0 R s m args below meth c H locs cells slots Q ls hx hb _ _ hl kk => by subst hq; exact lv_lconst hx hb d hv (kk ls hl)
theorem Sm.ldc2 {i : Nat} {v : Int64} (d : decode G.2.1 pc = .ok (.ldc2_w i, 3)) (hw : Cond.constantLong G.1.cls i v ∈ lw_tbl) (hq : pc + 3 = q) (k : Sm rv G q lv (.long v :: st) h e) : Sm rv G pc lv st h e :=
  k.lift fun z b p l e0 R s m args below meth c H locs cells slots Q ls hx hb ho ht hl kk => by subst hq; exact lv_ldc2 hx hb ho (ht _ (tbg hw rfl)) d (kk ls hl)
theorem Sm.dup {v : Value} (d : decode G.2.1 pc = .ok (.dup, 1)) (hv : v.category = 1) (hq : pc + 1 = q) (k : Sm rv G q lv (v :: v :: st) h e) : Sm rv G pc lv (v :: st) h e :=
  k.lift fun z b p l e0 R s m args below meth c H locs cells slots Q ls hx hb ho ht hl kk => by subst hq; exact lv_dup hx hb d (by rw [cv_cat]; exact hv) (kk ls hl)
theorem Sm.pop {v : Value} (d : decode G.2.1 pc = .ok (.pop, 1)) (hv : v.category = 1) (hq : pc + 1 = q) (k : Sm rv G q lv st h e) : Sm rv G pc lv (v :: st) h e :=
  k.lift fun z b p l e0 R s m args below meth c H locs cells slots Q ls hx hb ho ht hl kk => by subst hq; exact lv_pop hx hb d (by rw [cv_cat]; exact hv) (kk ls hl)
theorem Sm.dup2 {v w : Value} (d : decode G.2.1 pc = .ok (.dup2, 1)) (hv : v.category = 1) (hw : w.category = 1) (hq : pc + 1 = q) (k : Sm rv G q lv (v :: w :: v :: w :: st) h e) : Sm rv G pc lv (v :: w :: st) h e :=
  k.lift fun z b p l e0 R s m args below meth c H locs cells slots Q ls hx hb ho ht hl kk => by subst hq; exact lv_dup2_11 hx hb d (by rw [cv_cat]; exact hv) (by rw [cv_cat]; exact hw) (kk ls hl)
theorem Sm.iadd {x y : Int32} (d : decode G.2.1 pc = .ok (.iadd, 1)) (hq : pc + 1 = q) (k : Sm rv G q lv (.int (x + y) :: st) h e) : Sm rv G pc lv (.int y :: .int x :: st) h e :=
  k.lift fun z b p l e0 R s m args below meth c H locs cells slots Q ls hx hb _ _ hl kk => by subst hq; exact lv_iadd hx hb d (kk ls hl)
theorem Sm.isub {x y : Int32} (d : decode G.2.1 pc = .ok (.isub, 1)) (hq : pc + 1 = q) (k : Sm rv G q lv (.int (x - y) :: st) h e) : Sm rv G pc lv (.int y :: .int x :: st) h e :=
  k.lift fun z b p l e0 R s m args below meth c H locs cells slots Q ls hx hb _ _ hl kk => by subst hq; exact lv_isub hx hb d (kk ls hl)
theorem Sm.imul {x y : Int32} (d : decode G.2.1 pc = .ok (.imul, 1)) (hq : pc + 1 = q) (k : Sm rv G q lv (.int (x * y) :: st) h e) : Sm rv G pc lv (.int y :: .int x :: st) h e :=
  k.lift fun z b p l e0 R s m args below meth c H locs cells slots Q ls hx hb _ _ hl kk => by subst hq; exact lv_imul hx hb d (kk ls hl)
theorem Sm.iand {x y : Int32} (d : decode G.2.1 pc = .ok (.iand, 1)) (hq : pc + 1 = q) (k : Sm rv G q lv (.int (x &&& y) :: st) h e) : Sm rv G pc lv (.int y :: .int x :: st) h e :=
  k.lift fun z b p l e0 R s m args below meth c H locs cells slots Q ls hx hb _ _ hl kk => by subst hq; exact lv_iand hx hb d (kk ls hl)
theorem Sm.ior {x y : Int32} (d : decode G.2.1 pc = .ok (.ior, 1)) (hq : pc + 1 = q) (k : Sm rv G q lv (.int (x ||| y) :: st) h e) : Sm rv G pc lv (.int y :: .int x :: st) h e :=
  k.lift fun z b p l e0 R s m args below meth c H locs cells slots Q ls hx hb _ _ hl kk => by subst hq; exact lv_ior hx hb d (kk ls hl)
theorem Sm.ixor {x y : Int32} (d : decode G.2.1 pc = .ok (.ixor, 1)) (hq : pc + 1 = q) (k : Sm rv G q lv (.int (x ^^^ y) :: st) h e) : Sm rv G pc lv (.int y :: .int x :: st) h e :=
  k.lift fun z b p l e0 R s m args below meth c H locs cells slots Q ls hx hb _ _ hl kk => by subst hq; exact lv_ixor hx hb d (kk ls hl)
theorem Sm.ishl {x y : Int32} (d : decode G.2.1 pc = .ok (.ishl, 1)) (hq : pc + 1 = q) (k : Sm rv G q lv (.int (x <<< (y &&& 31)) :: st) h e) : Sm rv G pc lv (.int y :: .int x :: st) h e :=
  k.lift fun z b p l e0 R s m args below meth c H locs cells slots Q ls hx hb _ _ hl kk => by subst hq; exact lv_ishl hx hb d (kk ls hl)
theorem Sm.ishr {x y : Int32} (d : decode G.2.1 pc = .ok (.ishr, 1)) (hq : pc + 1 = q) (k : Sm rv G q lv (.int (x >>> (y &&& 31)) :: st) h e) : Sm rv G pc lv (.int y :: .int x :: st) h e :=
  k.lift fun z b p l e0 R s m args below meth c H locs cells slots Q ls hx hb _ _ hl kk => by subst hq; exact lv_ishr hx hb d (kk ls hl)
theorem Sm.ladd {x y : Int64} (d : decode G.2.1 pc = .ok (.ladd, 1)) (hq : pc + 1 = q) (k : Sm rv G q lv (.long (x + y) :: st) h e) : Sm rv G pc lv (.long y :: .long x :: st) h e :=
  k.lift fun z b p l e0 R s m args below meth c H locs cells slots Q ls hx hb _ _ hl kk => by subst hq; exact lv_ladd hx hb d (kk ls hl)
theorem Sm.lsub {x y : Int64} (d : decode G.2.1 pc = .ok (.lsub, 1)) (hq : pc + 1 = q) (k : Sm rv G q lv (.long (x - y) :: st) h e) : Sm rv G pc lv (.long y :: .long x :: st) h e :=
  k.lift fun z b p l e0 R s m args below meth c H locs cells slots Q ls hx hb _ _ hl kk => by subst hq; exact lv_lsub hx hb d (kk ls hl)
theorem Sm.lmul {x y : Int64} (d : decode G.2.1 pc = .ok (.lmul, 1)) (hq : pc + 1 = q) (k : Sm rv G q lv (.long (x * y) :: st) h e) : Sm rv G pc lv (.long y :: .long x :: st) h e :=
  k.lift fun z b p l e0 R s m args below meth c H locs cells slots Q ls hx hb _ _ hl kk => by subst hq; exact lv_lmul hx hb d (kk ls hl)
theorem Sm.land {x y : Int64} (d : decode G.2.1 pc = .ok (.land, 1)) (hq : pc + 1 = q) (k : Sm rv G q lv (.long (x &&& y) :: st) h e) : Sm rv G pc lv (.long y :: .long x :: st) h e :=
  k.lift fun z b p l e0 R s m args below meth c H locs cells slots Q ls hx hb _ _ hl kk => by subst hq; exact lv_land hx hb d (kk ls hl)
theorem Sm.lor {x y : Int64} (d : decode G.2.1 pc = .ok (.lor, 1)) (hq : pc + 1 = q) (k : Sm rv G q lv (.long (x ||| y) :: st) h e) : Sm rv G pc lv (.long y :: .long x :: st) h e :=
  k.lift fun z b p l e0 R s m args below meth c H locs cells slots Q ls hx hb _ _ hl kk => by subst hq; exact lv_lor hx hb d (kk ls hl)
theorem Sm.lxor {x y : Int64} (d : decode G.2.1 pc = .ok (.lxor, 1)) (hq : pc + 1 = q) (k : Sm rv G q lv (.long (x ^^^ y) :: st) h e) : Sm rv G pc lv (.long y :: .long x :: st) h e :=
  k.lift fun z b p l e0 R s m args below meth c H locs cells slots Q ls hx hb _ _ hl kk => by subst hq; exact lv_lxor hx hb d (kk ls hl)
theorem Sm.lshl {x : Int64} {y : Int32} (d : decode G.2.1 pc = .ok (.lshl, 1)) (hq : pc + 1 = q) (k : Sm rv G q lv (.long (x <<< (y.toInt64 &&& 63)) :: st) h e) : Sm rv G pc lv (.int y :: .long x :: st) h e :=
  k.lift fun z b p l e0 R s m args below meth c H locs cells slots Q ls hx hb _ _ hl kk => by subst hq; exact lv_lshl hx hb d rfl (kk ls hl)
theorem Sm.lshr {x : Int64} {y : Int32} (d : decode G.2.1 pc = .ok (.lshr, 1)) (hq : pc + 1 = q) (k : Sm rv G q lv (.long (x >>> (y.toInt64 &&& 63)) :: st) h e) : Sm rv G pc lv (.int y :: .long x :: st) h e :=
  k.lift fun z b p l e0 R s m args below meth c H locs cells slots Q ls hx hb _ _ hl kk => by subst hq; exact lv_lshr hx hb d rfl (kk ls hl)
theorem Sm.lushr {x : Int64} {y : Int32} (d : decode G.2.1 pc = .ok (.lushr, 1)) (hq : pc + 1 = q) (k : Sm rv G q lv (.long ((x.toUInt64 >>> (y.toInt64.toUInt64 &&& Int64.toUInt64 63)).toInt64) :: st) h e) : Sm rv G pc lv (.int y :: .long x :: st) h e :=
  k.lift fun z b p l e0 R s m args below meth c H locs cells slots Q ls hx hb _ _ hl kk => by subst hq; exact lv_lushr hx hb d rfl (kk ls hl)
theorem Sm.idiv {x y : Int32} (d : decode G.2.1 pc = .ok (.idiv, 1)) (hy : ¬ y = 0) (hq : pc + 1 = q) (k : Sm rv G q lv (.int (x / y) :: st) h e) : Sm rv G pc lv (.int y :: .int x :: st) h e :=
  k.lift fun z b p l e0 R s m args below meth c H locs cells slots Q ls hx hb _ _ hl kk => by subst hq; exact lv_idiv hx hb d hy (kk ls hl)
theorem Sm.irem {x y : Int32} (d : decode G.2.1 pc = .ok (.irem, 1)) (hy : ¬ y = 0) (hq : pc + 1 = q) (k : Sm rv G q lv (.int (x - x / y * y) :: st) h e) : Sm rv G pc lv (.int y :: .int x :: st) h e :=
  k.lift fun z b p l e0 R s m args below meth c H locs cells slots Q ls hx hb _ _ hl kk => by subst hq; exact lv_irem hx hb d hy (kk ls hl)
theorem Sm.ineg {x : Int32} (d : decode G.2.1 pc = .ok (.ineg, 1)) (hq : pc + 1 = q) (k : Sm rv G q lv (.int (-x) :: st) h e) : Sm rv G pc lv (.int x :: st) h e :=
  k.lift fun z b p l e0 R s m args below meth c H locs cells slots Q ls hx hb _ _ hl kk => by subst hq; exact lv_ineg hx hb d (kk ls hl)
theorem Sm.lneg {x : Int64} (d : decode G.2.1 pc = .ok (.lneg, 1)) (hq : pc + 1 = q) (k : Sm rv G q lv (.long (-x) :: st) h e) : Sm rv G pc lv (.long x :: st) h e :=
  k.lift fun z b p l e0 R s m args below meth c H locs cells slots Q ls hx hb _ _ hl kk => by subst hq; exact lv_lneg hx hb d (kk ls hl)
theorem Sm.i2l {x : Int32} (d : decode G.2.1 pc = .ok (.i2l, 1)) (hq : pc + 1 = q) (k : Sm rv G q lv (.long x.toInt64 :: st) h e) : Sm rv G pc lv (.int x :: st) h e :=
  k.lift fun z b p l e0 R s m args below meth c H locs cells slots Q ls hx hb _ _ hl kk => by subst hq; exact lv_i2l hx hb d rfl (kk ls hl)
theorem Sm.l2i {x : Int64} (d : decode G.2.1 pc = .ok (.l2i, 1)) (hq : pc + 1 = q) (k : Sm rv G q lv (.int x.toInt32 :: st) h e) : Sm rv G pc lv (.long x :: st) h e :=
  k.lift fun z b p l e0 R s m args below meth c H locs cells slots Q ls hx hb _ _ hl kk => by subst hq; exact lv_l2i hx hb d rfl (kk ls hl)
theorem Sm.lcmp {x y : Int64} (d : decode G.2.1 pc = .ok (.lcmp, 1)) (hq : pc + 1 = q) (k : Sm rv G q lv (.int (lg_cmp x y) :: st) h e) : Sm rv G pc lv (.long y :: .long x :: st) h e :=
  k.lift fun z b p l e0 R s m args below meth c H locs cells slots Q ls hx hb _ _ hl kk => by subst hq; exact W.lcmp hx hb d (kk ls hl)
/-- a branch that leaves the world as it is -/
theorem Sm.lift2 {P : Prop} {i : Decidable P} {qt qf : Nat} {st1 st2 : List Value} (kt : P → Sm rv G qt lv st1 h e1) (kf : ¬ P → Sm rv G qf lv st2 h e2)
    (hs : ∀ (z b : Nat) (p : Program) (l : Launch) (e0 : Env) (R : Room) (s : State) (m : MethodId) (args : Array Value) (below : List Frame) (meth : Method) (c : Code) (H : Heap) (locs : List Loc) (cells slots : Nat) (Q : State → Prop) (ls : Array Slot),
      p.tables.exec = Jvm.exec → c.code = G.2.1 → (P → W p l e0 R s m args below meth c H locs cells slots Q (F0 m qt ls (st1.map (cv z b)))) → (¬ P → W p l e0 R s m args below meth c H locs cells slots Q (F0 m qf ls (st2.map (cv z b)))) →
      W p l e0 R s m args below meth c H locs cells slots Q (F0 m pc ls (st.map (cv z b)))) : Sm rv G pc lv st h (if P then e1 else e2) := by
  by_cases hP : P
  · rw [if_pos hP]
    exact (kt hP).lift fun z b p l e0 R s m args below meth c H locs cells slots Q ls hx hb _ _ hl kk => hs z b p l e0 R s m args below meth c H locs cells slots Q ls hx hb (fun _ => kk ls hl) (fun n => absurd hP n)
  · rw [if_neg hP]
    exact (kf hP).lift fun z b p l e0 R s m args below meth c H locs cells slots Q ls hx hb _ _ hl kk => hs z b p l e0 R s m args below meth c H locs cells slots Q ls hx hb (fun n => absurd n hP) (fun _ => kk ls hl)
theorem Sm.icmp_eq {x y : Int32} {off : Int} {t : Nat} (d : decode G.2.1 pc = .ok (.if_icmp .eq off, 3)) (ht : (pc : Int) + off = (t : Int)) (hq : pc + 3 = q) (kt : x = y → Sm rv G t lv st h e1) (kf : ¬ (x = y) → Sm rv G q lv st h e2) : Sm rv G pc lv (.int y :: .int x :: st) h (if x = y then e1 else e2) :=
  Sm.lift2 kt kf fun z b p l e0 R s m args below meth c H locs cells slots Q ls hx hb k1 k2 => by subst hq; exact lv_icmp_eq hx hb d ht (fun w => k1 w) (fun w => k2 w)
theorem Sm.if_eq {x : Int32} {off : Int} {t : Nat} (d : decode G.2.1 pc = .ok (.ifCond .eq off, 3)) (ht : (pc : Int) + off = (t : Int)) (hq : pc + 3 = q) (kt : x = 0 → Sm rv G t lv st h e1) (kf : ¬ (x = 0) → Sm rv G q lv st h e2) : Sm rv G pc lv (.int x :: st) h (if x = 0 then e1 else e2) :=
  Sm.lift2 kt kf fun z b p l e0 R s m args below meth c H locs cells slots Q ls hx hb k1 k2 => by subst hq; exact lv_if_eq hx hb d ht (fun w => k1 w) (fun w => k2 w)
theorem Sm.icmp_ne {x y : Int32} {off : Int} {t : Nat} (d : decode G.2.1 pc = .ok (.if_icmp .ne off, 3)) (ht : (pc : Int) + off = (t : Int)) (hq : pc + 3 = q) (kf : x = y → Sm rv G q lv st h e1) (kt : ¬ (x = y) → Sm rv G t lv st h e2) : Sm rv G pc lv (.int y :: .int x :: st) h (if x = y then e1 else e2) :=
  Sm.lift2 kf kt fun z b p l e0 R s m args below meth c H locs cells slots Q ls hx hb k1 k2 => by subst hq; exact lv_icmp_ne hx hb d ht (fun w => k2 w) (fun w => k1 w)
theorem Sm.if_ne {x : Int32} {off : Int} {t : Nat} (d : decode G.2.1 pc = .ok (.ifCond .ne off, 3)) (ht : (pc : Int) + off = (t : Int)) (hq : pc + 3 = q) (kf : x = 0 → Sm rv G q lv st h e1) (kt : ¬ (x = 0) → Sm rv G t lv st h e2) : Sm rv G pc lv (.int x :: st) h (if x = 0 then e1 else e2) :=
  Sm.lift2 kf kt fun z b p l e0 R s m args below meth c H locs cells slots Q ls hx hb k1 k2 => by subst hq; exact lv_if_ne hx hb d ht (fun w => k2 w) (fun w => k1 w)
theorem Sm.icmp_lt {x y : Int32} {off : Int} {t : Nat} (d : decode G.2.1 pc = .ok (.if_icmp .lt off, 3)) (ht : (pc : Int) + off = (t : Int)) (hq : pc + 3 = q) (kt : x < y → Sm rv G t lv st h e1) (kf : ¬ (x < y) → Sm rv G q lv st h e2) : Sm rv G pc lv (.int y :: .int x :: st) h (if x < y then e1 else e2) :=
  Sm.lift2 kt kf fun z b p l e0 R s m args below meth c H locs cells slots Q ls hx hb k1 k2 => by subst hq; exact lv_icmp_lt hx hb d ht (fun w => k1 w) (fun w => k2 w)
theorem Sm.if_lt {x : Int32} {off : Int} {t : Nat} (d : decode G.2.1 pc = .ok (.ifCond .lt off, 3)) (ht : (pc : Int) + off = (t : Int)) (hq : pc + 3 = q) (kt : x < 0 → Sm rv G t lv st h e1) (kf : ¬ (x < 0) → Sm rv G q lv st h e2) : Sm rv G pc lv (.int x :: st) h (if x < 0 then e1 else e2) :=
  Sm.lift2 kt kf fun z b p l e0 R s m args below meth c H locs cells slots Q ls hx hb k1 k2 => by subst hq; exact lv_if_lt hx hb d ht (fun w => k1 w) (fun w => k2 w)
theorem Sm.icmp_ge {x y : Int32} {off : Int} {t : Nat} (d : decode G.2.1 pc = .ok (.if_icmp .ge off, 3)) (ht : (pc : Int) + off = (t : Int)) (hq : pc + 3 = q) (kt : y ≤ x → Sm rv G t lv st h e1) (kf : ¬ (y ≤ x) → Sm rv G q lv st h e2) : Sm rv G pc lv (.int y :: .int x :: st) h (if y ≤ x then e1 else e2) :=
  Sm.lift2 kt kf fun z b p l e0 R s m args below meth c H locs cells slots Q ls hx hb k1 k2 => by subst hq; exact lv_icmp_ge hx hb d ht (fun w => k1 w) (fun w => k2 w)
theorem Sm.if_ge {x : Int32} {off : Int} {t : Nat} (d : decode G.2.1 pc = .ok (.ifCond .ge off, 3)) (ht : (pc : Int) + off = (t : Int)) (hq : pc + 3 = q) (kt : 0 ≤ x → Sm rv G t lv st h e1) (kf : ¬ (0 ≤ x) → Sm rv G q lv st h e2) : Sm rv G pc lv (.int x :: st) h (if 0 ≤ x then e1 else e2) :=
  Sm.lift2 kt kf fun z b p l e0 R s m args below meth c H locs cells slots Q ls hx hb k1 k2 => by subst hq; exact lv_if_ge hx hb d ht (fun w => k1 w) (fun w => k2 w)
theorem Sm.icmp_gt {x y : Int32} {off : Int} {t : Nat} (d : decode G.2.1 pc = .ok (.if_icmp .gt off, 3)) (ht : (pc : Int) + off = (t : Int)) (hq : pc + 3 = q) (kt : y < x → Sm rv G t lv st h e1) (kf : ¬ (y < x) → Sm rv G q lv st h e2) : Sm rv G pc lv (.int y :: .int x :: st) h (if y < x then e1 else e2) :=
  Sm.lift2 kt kf fun z b p l e0 R s m args below meth c H locs cells slots Q ls hx hb k1 k2 => by subst hq; exact lv_icmp_gt hx hb d ht (fun w => k1 w) (fun w => k2 w)
theorem Sm.if_gt {x : Int32} {off : Int} {t : Nat} (d : decode G.2.1 pc = .ok (.ifCond .gt off, 3)) (ht : (pc : Int) + off = (t : Int)) (hq : pc + 3 = q) (kt : 0 < x → Sm rv G t lv st h e1) (kf : ¬ (0 < x) → Sm rv G q lv st h e2) : Sm rv G pc lv (.int x :: st) h (if 0 < x then e1 else e2) :=
  Sm.lift2 kt kf fun z b p l e0 R s m args below meth c H locs cells slots Q ls hx hb k1 k2 => by subst hq; exact lv_if_gt hx hb d ht (fun w => k1 w) (fun w => k2 w)
theorem Sm.icmp_le {x y : Int32} {off : Int} {t : Nat} (d : decode G.2.1 pc = .ok (.if_icmp .le off, 3)) (ht : (pc : Int) + off = (t : Int)) (hq : pc + 3 = q) (kt : x ≤ y → Sm rv G t lv st h e1) (kf : ¬ (x ≤ y) → Sm rv G q lv st h e2) : Sm rv G pc lv (.int y :: .int x :: st) h (if x ≤ y then e1 else e2) :=
  Sm.lift2 kt kf fun z b p l e0 R s m args below meth c H locs cells slots Q ls hx hb k1 k2 => by subst hq; exact lv_icmp_le hx hb d ht (fun w => k1 w) (fun w => k2 w)
theorem Sm.if_le {x : Int32} {off : Int} {t : Nat} (d : decode G.2.1 pc = .ok (.ifCond .le off, 3)) (ht : (pc : Int) + off = (t : Int)) (hq : pc + 3 = q) (kt : x ≤ 0 → Sm rv G t lv st h e1) (kf : ¬ (x ≤ 0) → Sm rv G q lv st h e2) : Sm rv G pc lv (.int x :: st) h (if x ≤ 0 then e1 else e2) :=
  Sm.lift2 kt kf fun z b p l e0 R s m args below meth c H locs cells slots Q ls hx hb k1 k2 => by subst hq; exact lv_if_le hx hb d ht (fun w => k1 w) (fun w => k2 w)
theorem Sm.goto {off : Int} {t : Nat} (d : decode G.2.1 pc = .ok (.goto off, 3)) (ht : (pc : Int) + off = (t : Int)) (k : Sm rv G t lv st h e) : Sm rv G pc lv st h e :=
  k.lift fun z b p l e0 R s m args below meth c H locs cells slots Q ls hx hb _ _ hl kk => lv_goto hx hb d ht (kk ls hl)
end SM
