/-! calls -/
/-- an answer, and the world behind it, go on -/
def bd {ρ α : Type} (o : Option (ρ × Hp)) (e : ρ → Hp → Option α) : Option α := o.bind fun w => e w.1 w.2
def rvI (x : Int32) : Option Value := some (.int x)
def rvJ (x : Int64) : Option Value := some (.long x)
def rvA (x : Nat) : Option Value := some (.ref x)
def rvV (_ : Unit) : Option Value := none
def PcG (z b : Nat) (D : va_G) (dA : Nat → ClassId) (as : List Value) (h : Hp) : Array Value → State → Prop := fun v U => v = (as.map (cv z b)).toArray ∧ Rep z b D dA U h U.heap ∧ va_K D vwCl (tysA dA) U ∧ NWok U ∧ b < z
def QcG (z b : Nat) (D : va_G) (dA : Nat → ClassId) (r : Option Value) (h1 : Hp) : Array Value → State → Outcome → State → Prop := fun _ st o t => o = .returned (r.map (cv z b)) ∧ Rep z b D dA t h1 t.heap ∧ st.heap.size ≤ t.heap.size ∧ ∀ q : Nat, q < st.heap.size → ¬ z ≤ q → t.heap[q]? = st.heap[q]?
theorem Rep.moved {z b : Nat} {D : va_G} {dA : Nat → ClassId} {s U : State} {h : Hp} {H : Heap} (hvm : s.vm.Alike U.vm) (hR : Rep z b D dA s h H) : Rep z b D dA U h H := ⟨hR.1, hR.2.1, hR.2.2.moved hvm⟩
theorem PcG.blind {z b : Nat} {D : va_G} {dA : Nat → ClassId} {as : List Value} {h : Hp} : FrameBlind (PcG z b D dA as h) := fun a U g mk q => by
  obtain ⟨q1, q2, q3, q4, q5⟩ := q
  have hv : U.vm.Alike (U.calling g mk a).vm := Vm.Alike.refl U.vm
  exact ⟨q1, q2.moved (U := U.calling g mk a) hv, q3.moved hv, q4.same (s := U) (U := U.calling g mk a) rfl, q5⟩
def wsG (G : Gx) : List Cond := .code G.1 G.2.1 G.2.2.1 G.2.2.2.1 :: TBg
def rmG (G : Gx) (mc ms : Nat) : Room := { frames := G.2.2.2.2, cells := mc, slots := ms, locals := 40 * G.2.2.2.2 }
def okG : Option FieldType → Bool
  | none => true
  | some .int => true
  | some .boolean => true
  | some .long => true
  | some (.object _) => true
  | _ => false
/-- a method's contract out of its walk -/
theorem Sm.met {ρ : Type} {rv : ρ → Option Value} {G : Gx} {as : List Value} {h h1 : Hp} {e : Option (ρ × Hp)} {r : ρ} (hc : Sm rv G 0 (ent G.2.2.1 as) [] h e) (he : e = some (r, h1)) (l : Launch) (z b : Nat) (D : va_G) (dA : Nat → ClassId)
    (hy : plainName G.1.cls = true) (hd : ∀ a ∈ as, ∀ x, a ≠ .double x) (hn : (exps as).length ≤ G.2.2.1) (hg : okG G.2.2.2.1 = true) (ho : okR G.2.2.2.1 (rv r)) :
    Met l G.1 (wsG G) (rmG G (gN h1 - gN h) (gT h1 - gT h)) (PcG z b D dA as h) (QcG z b D dA (rv r) h1) (gN h1 - gN h) (gT h1 - gT h) (fun q => z ≤ q) := by
  refine Met.ofW (cc := G.2.1) (maxL := G.2.2.1) (ret := G.2.2.2.1) hy rfl ?_
  intro p e0 s m args below meth c s₁ B hml hv
  obtain ⟨rfl, hR, hK, hN, hbz⟩ := hv
  have hx := B.exec
  have hb := B.bytes
  have hr := B.returns
  have hts := atoms_spec (ws := wsG G) B.pre
  have hown : s.vm.findClass G.1.cls = some m.cls := findClass_of_methodNamed B.named
  have hlocks := B.notSynchronized
  have hname : meth.name = G.1.name := (name_of_methodNamed B.named B.method).1
  obtain ⟨k1, k2, k3⟩ := hc r h1 he
  rw [lg_entry_eq]
  have hl := LR.ent (z := z) (b := b) hd hn
  have hS : va_S (fun q => z ≤ q) s.heap s.heap [] := va_S.rf
  have C : Cx G D dA z b (gN h) p (rmG G (gN h1 - gN h) (gT h1 - gT h)) s m (as.map (cv z b)).toArray meth c := ⟨hx, hb, hml, hown, fun w hw => hts w (List.mem_cons_of_mem _ hw), hname, hK, hN, hR.1, hbz, Nat.le_refl _, Nat.le_refl _⟩
  have kk := k3 D dA z b (gN h) (gT h) p l e0 (rmG G (gN h1 - gN h) (gT h1 - gT h)) s m (as.map (cv z b)).toArray below meth c (MQ below (QcG z b D dA (rv r) h1) (as.map (cv z b)).toArray s (gN h1 - gN h) (gT h1 - gT h) (fun q => z ≤ q)) C (Nat.le_refl _) (Nat.le_refl _) ?_ (Nat.le_refl _) (Nat.le_refl _) s.heap [] _ hl hR hS
  · rw [Nat.sub_self, Nat.sub_self] at kk
    exact kk
  · intro _ H locs ls pc hdg hR1 hS1
    have hfin : ∀ t : State, t.heap = H → s.WarmedH t.vm → QcG z b D dA (rv r) h1 (as.map (cv z b)).toArray s (.returned ((rv r).map (cv z b))) t := fun t ht hW => by
      refine ⟨rfl, ?_, by rw [ht]; exact hS1.1, fun q h9 h8 => by rw [ht]; exact hS1.2.1 q h9 h8⟩
      rw [ht]
      exact hR1.moved hW.alike
    revert hfin hdg
    generalize hv : rv r = v at ho ⊢
    generalize hgt : G.2.2.2.1 = gt at ho hg hr ⊢
    intro hdg hfin
    match gt, v, hg, ho with
    | Option.none, Option.none, _, _ => exact W.vret hx hb hr hfin hS1.2.2 hdg
    | some .int, some (.int x), _, _ => exact W.iret hx hb hr hfin hS1.2.2 hdg
    | some .boolean, some (.int x), _, h01 => exact W.zret (ty := .boolean) hx hb hr (by rcases h01 with rfl | rfl <;> rfl) hfin hS1.2.2 hdg
    | some .long, some (.long x), _, _ => exact W.lret hx hb hr hfin hS1.2.2 hdg
    | some (.object C), some (.ref x), _, _ => exact W.aret (rt := .object C) hx hb hr (Or.inl ⟨_, rfl⟩) (Or.inr ⟨_, rfl⟩) hfin hS1.2.2 hdg
/-- behind a call -/
theorem run_go {ρ' : Type} {rv' : ρ' → Option Value} {z b : Nat} {D : va_G} {dA : Nat → ClassId} {r : ρ'} {h1 : Hp} {p : Program} {l : Launch} {e0 : Env} {R : Room} {s : State} {m : MethodId} {args : Array Value} {below : List Frame} {meth : Method} {c : Code} {H : Heap} {locs : List Loc} {cells slots mc ms pc : Nat} {ls : Array Slot} {st0 rest : List Value} {Q : State → Prop} {a : Array Value}
    (hr : va_Run p l e0 R s m args below meth c H locs cells slots mc ms (F0 m pc ls st0) rest (QcG z b D dA (rv' r) h1 a) (fun q => z ≤ q)) (hS : va_S (fun q => z ≤ q) s.heap H locs)
    (kk : ∀ (H1 : Heap) (locs1 : List Loc), Rep z b D dA s h1 H1 → va_S (fun q => z ≤ q) s.heap H1 locs1 → W p l e0 R s m args below meth c H1 locs1 (cells + mc) (slots + ms) Q (F0 m (pc + 3) ls (((rv' r).map (cv z b)).toList ++ rest))) :
    W p l e0 R s m args below meth c H locs cells slots Q (F0 m pc ls st0) := by
  intro T hT X
  obtain ⟨v, st₀, t, T', L, h0, X', hL, g1, g2, ⟨hv, hR, hz, hk⟩, st⟩ := hr T hT X
  have hv := Outcome.returned.inj hv
  subst hv
  rw [h0] at hz hk
  have hal : s.vm.Alike t.vm := by rw [← g2]; exact X'.warmed.alike
  obtain ⟨t2, a1, b1⟩ := kk T'.heap (locs ++ L) (by rw [g1]; exact hR.moved hal.symm) ⟨Nat.le_trans hS.1 (by rw [g1]; exact hz), fun q h1 h2 => by rw [g1, hk q (Nat.lt_of_lt_of_le h1 hS.1) h2]; exact hS.2.1 q h1 h2, fun q hq => by
      rcases List.mem_append.mp hq with h | h
      · exact hS.2.2 q h
      · exact hL q h⟩ T' rfl X'
  exact ⟨t2, st t2 a1, b1⟩
theorem goodG {G : Gx} (hcode : Cond.code G.1 G.2.1 G.2.2.1 G.2.2.2.1 ∈ lw_tbl) : GoodIn TBg (wsG G) := by
  have g : ∀ w ∈ TBg, (w.onTables && w.keeps) = true ∨ ∃ ty, w = .arrayClass ty := fun w hw => good_of_word (List.mem_filter.mp hw).2
  intro w hw
  rcases List.mem_cons.mp hw with rfl | h
  · have h2 : Cond.code G.1 G.2.1 G.2.2.1 G.2.2.2.1 ∈ TBg := tbg hcode rfl
    exact ⟨h2, g _ h2⟩
  · exact ⟨h, g w h⟩
theorem goodA {ws ws2 : List Cond} (h1 : ∀ w ∈ ws2, w ∈ lw_tbl ∧ goodWord w = true) (h2 : GoodIn TBg ws) : GoodIn TBg (ws2 ++ ws) := fun w hw => by
  rcases List.mem_append.mp hw with h | h
  · exact ⟨tbg (h1 w h).1 (h1 w h).2, good_of_word (h1 w h).2⟩
  · exact h2 w h
theorem map_rev {z b : Nat} (l : List Value) : (l.map (cv z b)).reverse = l.reverse.map (cv z b) := (List.map_reverse).symm
section SM
variable {ρ ρ' : Type} {rv : ρ → Option Value} {rv' : ρ' → Option Value} {G G' : Gx} {pc q : Nat} {lv st : List Value} {h : Hp} {e : ρ' → Hp → Option (ρ × Hp)} {e' : Option (ρ' × Hp)} {as : List Value} {i a ci : Nat} {own host : String} {r : vw_C}
theorem Sm.of_run (hc : Sm rv' G' 0 (ent G'.2.2.1 as) [] h e') {st0 : List Value} (hd : ∀ a ∈ as, ∀ x, a ≠ .double x) (hn : (exps as).length ≤ G'.2.2.1) (hy : plainName G'.1.cls = true) (hg : okG G'.2.2.2.1 = true) (hdep : G'.2.2.2.2 < G.2.2.2.2) (hq : pc + 3 = q)
    (k : ∀ r h1, Sm rv G q lv ((rv' r).toList ++ st) h1 (e r h1))
    (hrun : ∀ (D : va_G) (dA : Nat → ClassId) (z b mc ms : Nat) (p : Program) (l : Launch) (e0 : Env) (R : Room) (s : State) (m : MethodId) (args : Array Value) (below : List Frame) (meth : Method) (c : Code) (H : Heap) (locs : List Loc) (cells slots : Nat) (ls : Array Slot) (Qc : Array Value → State → Outcome → State → Prop),
      p.tables.exec = Jvm.exec → c.code = G.2.1 → c.maxLocals = G.2.2.1 → s.vm.findClass G.1.cls = some m.cls → (∀ w ∈ TBg, w.before args s = true) → NWok s → va_K D vwCl (tysA dA) s → va_P D vwCl (wsO z b dA h) H → ls.size = G.2.2.1 → G.2.2.2.2 ≤ R.frames → 40 * G.2.2.2.2 ≤ R.locals → cells + mc ≤ R.cells ∧ slots + ms ≤ R.slots →
      Met l G'.1 (wsG G') (rmG G' mc ms) (PcG z b D dA as h) Qc mc ms (fun q => z ≤ q) → (∀ U : State, U.heap = H → s.WarmedH U.vm → PcG z b D dA as h (as.map (cv z b)).toArray U) →
      va_Run p l e0 R s m args below meth c H locs cells slots mc ms (F0 m pc ls (st0.map (cv z b))) (st.map (cv z b)) (Qc (as.map (cv z b)).toArray) (fun q => z ≤ q)) :
    Sm rv G pc lv st0 h (bd e' e) := by
  cases he : e' with
  | none => exact Sm.none
  | some w =>
    obtain ⟨r, h1⟩ := w
    show Sm rv G pc lv st0 h (e r h1)
    have hm1 := hc r h1 he
    intro r2 h2 he2
    obtain ⟨k1, k2, k3⟩ := k r h1 r2 h2 he2
    refine ⟨⟨k1.1, Nat.le_trans hm1.1.2 k1.2⟩, Nat.le_trans hm1.2.1 k2, fun D dA z b c0 t0 p l e0 R s m args below meth c Q C hcl hsl hr h0 ht0 H locs ls hl hR hS => ?_⟩
    obtain ⟨C1, C2, C3, C4, C5, C6, C7, C8, C9, C10, C11, C12⟩ := id C
    have hle1 := hm1.1.2
    have hle3 := k1.2
    have hle2 := hm1.2.1
    have hM := Sm.met hc he l z b D dA hy hd hn hg hm1.1.1
    subst hq
    refine run_go (rv' := rv') (hrun D dA z b _ _ p l e0 R s m args below meth c H locs _ _ ls _ C1 C2 C3 C4 C5 C8 C7 hR.2.1 hl.1 C11 C12 ⟨by omega, by omega⟩ hM (fun U hU hW => ⟨rfl, by rw [hU]; exact hR.moved hW.alike, C7.moved hW.alike, C8.moved hW, C10⟩)) hS (fun H1 locs1 hR1 hS1 => ?_)
    have kk := k3 D dA z b c0 t0 p l e0 R s m args below meth c Q C hcl hsl hr (by omega) (by omega) H1 locs1 ls hl hR1 hS1
    rw [show gN h1 - c0 = gN h - c0 + (gN h1 - gN h) by omega, show gT h1 - t0 = gT h - t0 + (gT h1 - gT h) by omega, List.map_append, show ((rv' r).toList).map (cv z b) = ((rv' r).map (cv z b)).toList by cases rv' r <;> rfl] at kk
    exact kk
def catS (l : List Value) : Nat := (l.map fun v => v.category).sum
theorem catS_map {z b : Nat} (l : List Value) : ((l.map (cv z b)).map fun v => v.category).sum = catS l := by
  unfold catS
  rw [List.map_map]
  congr 1
  apply List.map_congr_left
  intro v _
  exact cv_cat z b v
theorem room_of {G G' : Gx} {R : Room} {mc ms : Nat} (hdep : G'.2.2.2.2 < G.2.2.2.2) (hmax : G'.2.2.1 ≤ 20) (h1 : G.2.2.2.2 ≤ R.frames) (h2 : 40 * G.2.2.2.2 ≤ R.locals) : (rmG G' mc ms).frames + 1 ≤ R.frames ∧ 8 + (G'.2.2.1 + 11) + (rmG G' mc ms).locals ≤ R.locals := by
  constructor
  · show G'.2.2.2.2 + 1 ≤ _; omega
  · show 8 + (G'.2.2.1 + 11) + 40 * G'.2.2.2.2 ≤ _; omega
abbrev okM (G' G : Gx) (as st : List Value) (n : Nat) : Prop := (plainName G'.1.cls = true ∧ okG G'.2.2.2.1 = true ∧ G'.2.2.2.2 < G.2.2.2.2 ∧ G'.2.2.1 ≤ 20) ∧ (exps as).length ≤ G'.2.2.1 ∧ as.length = n ∧ (G'.1.cls ≠ "java/lang/invoke/MethodHandle" ∧ G'.1.cls ≠ "java/lang/invoke/VarHandle") ∧ catS st ≤ 8
theorem Sm.callV {args : List Value} {n : Nat} (hc : Sm rv' G' 0 (ent G'.2.2.1 (.ref a :: args)) [] h e') (hk : isO h a ci) (hci : ci < 10) (hr : vwCl[ci]? = some r) (hG : r.1 = G'.1.cls) (ho : G.1.cls = own)
    (hw1 : Cond.methodLink own i G'.1 ∈ lw_tbl) (hw2 : Cond.instanceMethod G'.1 ∈ lw_tbl) (hw3 : Cond.selects G'.1.cls G'.1 G'.1 ∈ lw_tbl) (hw4 : Cond.initialized G'.1.cls ∈ lw_tbl) (hw5 : Cond.code G'.1 G'.2.1 G'.2.2.1 G'.2.2.2.1 ∈ lw_tbl)
    (hm : okM G' G (.ref a :: args) st (n + 1)) (hp : (parseMethodDescriptor G'.1.desc).map (fun d => d.parameters.length) = some n) (hd : ∀ v ∈ args, ∀ x, v ≠ .double x) (d : decode G.2.1 pc = .ok (.invokevirtual i, 3)) (hq : pc + 3 = q)
    (k : ∀ r h1, Sm rv G q lv ((rv' r).toList ++ st) h1 (e r h1)) {st0 : List Value} (hst : st0 = args.reverse ++ .ref a :: st) : Sm rv G pc lv st0 h (bd e' e) := by
  subst hst
  obtain ⟨⟨m1, m2, m3, m4⟩, m5, m6, m7, m8⟩ := hm
  refine Sm.of_run hc (by intro v hv; rcases List.mem_cons.mp hv with rfl | h9; exact (fun x h => by cases h); exact hd v h9) m5 m1 m2 m3 hq k fun D dA z b mc ms p l e0 R s m args' below meth c H locs cells slots ls Qc C1 C2 C3 C4 C5 C8 C7 hP hls hfr hlo hcs hM hpre => ?_
  have he : (wsO z b dA h)[a - 1]? = some (ad z b a, .inr (ci, fl z b h a ci)) := by rw [wsO_get hk.2.1 hk.2.2, ce_ob hci hk.1]
  have hrec := va_recv C7 hP hr he
  rw [hG] at hrec
  refine va_runV (As := args.map (cv z b)) (rest := st.map (cv z b)) (own := own) (C := G'.1.cls) ⟨C1, C2, C3, by rw [← ho]; exact C4, C5⟩ hM (cwV n C5 (goodA (ws2 := [.methodLink own i G'.1, .instanceMethod G'.1, .selects G'.1.cls G'.1 G'.1, .initialized G'.1.cls]) ?_ (goodG hw5)) rfl rfl rfl ⟨rfl, m7.1, m7.2, hp⟩ (room_of m3 m4 hfr hlo)) ⟨PcG.blind, hrec, hpre⟩ rfl ?_ hls ?_ (lv_room ?_) d hcs
  · intro w hw
    simp only [List.mem_cons, List.not_mem_nil, or_false] at hw
    rcases hw with rfl | rfl | rfl | rfl
    · exact ⟨hw1, rfl⟩
    · exact ⟨hw2, rfl⟩
    · exact ⟨hw3, rfl⟩
    · exact ⟨hw4, rfl⟩
  · rw [List.length_map]; simpa using m6
  · rw [map_rev, List.map_append]; rfl
  · rw [catS_map]; exact m8
theorem Sm.callS {n : Nat} (hc : Sm rv' G' 0 (ent G'.2.2.1 as) [] h e') (ho : G.1.cls = own)
    (hw1 : Cond.methodLink own i G'.1 ∈ lw_tbl) (hw2 : Cond.static G'.1 ∈ lw_tbl) (hw4 : Cond.initialized G'.1.cls ∈ lw_tbl) (hw5 : Cond.code G'.1 G'.2.1 G'.2.2.1 G'.2.2.2.1 ∈ lw_tbl)
    (hm : okM G' G as st n) (hp : (parseMethodDescriptor G'.1.desc).map (fun d => d.parameters.length) = some n) (hd : ∀ v ∈ as, ∀ x, v ≠ .double x) (d : decode G.2.1 pc = .ok (.invokestatic i, 3)) (hq : pc + 3 = q)
    (k : ∀ r h1, Sm rv G q lv ((rv' r).toList ++ st) h1 (e r h1)) {st0 : List Value} (hst : st0 = as.reverse ++ st) : Sm rv G pc lv st0 h (bd e' e) := by
  subst hst
  obtain ⟨⟨m1, m2, m3, m4⟩, m5, m6, m7, m8⟩ := hm
  refine Sm.of_run hc hd m5 m1 m2 m3 hq k fun D dA z b mc ms p l e0 R s m args' below meth c H locs cells slots ls Qc C1 C2 C3 C4 C5 C8 C7 hP hls hfr hlo hcs hM hpre => ?_
  refine va_runS (As := as.map (cv z b)) (rest := st.map (cv z b)) (own := own) ⟨C1, C2, C3, by rw [← ho]; exact C4, C5⟩ hM (va_cwS n C5 (goodA (ws2 := [.methodLink own i G'.1, .static G'.1, .initialized G'.1.cls]) ?_ (goodG hw5)) rfl rfl rfl ⟨m7.1, m7.2, hp⟩ (room_of m3 m4 hfr hlo)) ⟨PcG.blind, hpre⟩ rfl ?_ hls ?_ (lv_room ?_) d hcs
  · intro w hw
    simp only [List.mem_cons, List.not_mem_nil, or_false] at hw
    rcases hw with rfl | rfl | rfl
    · exact ⟨hw1, rfl⟩
    · exact ⟨hw2, rfl⟩
    · exact ⟨hw4, rfl⟩
  · rw [List.length_map]; exact m6
  · rw [map_rev, List.map_append]
  · rw [catS_map]; exact m8
theorem Sm.callSN {n : Nat} (hc : Sm rv' G' 0 (ent G'.2.2.1 as) [] h e') (ho : G.1.cls = own)
    (hw1 : Cond.methodLinkNest own i G'.1 host ∈ lw_tbl) (hw2 : Cond.static G'.1 ∈ lw_tbl) (hw4 : Cond.initialized G'.1.cls ∈ lw_tbl) (hw5 : Cond.code G'.1 G'.2.1 G'.2.2.1 G'.2.2.2.1 ∈ lw_tbl)
    (hm : okM G' G as st n) (hp : (parseMethodDescriptor G'.1.desc).map (fun d => d.parameters.length) = some n) (hd : ∀ v ∈ as, ∀ x, v ≠ .double x) (d : decode G.2.1 pc = .ok (.invokestatic i, 3)) (hq : pc + 3 = q)
    (k : ∀ r h1, Sm rv G q lv ((rv' r).toList ++ st) h1 (e r h1)) {st0 : List Value} (hst : st0 = as.reverse ++ st) : Sm rv G pc lv st0 h (bd e' e) := by
  subst hst
  obtain ⟨⟨m1, m2, m3, m4⟩, m5, m6, m7, m8⟩ := hm
  refine Sm.of_run hc hd m5 m1 m2 m3 hq k fun D dA z b mc ms p l e0 R s m args' below meth c H locs cells slots ls Qc C1 C2 C3 C4 C5 C8 C7 hP hls hfr hlo hcs hM hpre => ?_
  exact va_runSN (As := as.map (cv z b)) (rest := st.map (cv z b)) (own := own) (host := host) ⟨C1, C2, C3, by rw [← ho]; exact C4, C5⟩ hM ⟨va_cnB n C5 (goodG hw5) rfl rfl rfl (C8.1 _ (nwi hw1 rfl)) (C5 _ (tbg hw4 rfl)) ⟨m7.1, m7.2, hp⟩ (room_of m3 m4 hfr hlo), C5 _ (tbg hw2 rfl), trivial⟩ ⟨PcG.blind, hpre⟩ rfl (by rw [List.length_map]; exact m6) hls (by rw [map_rev]; exact List.map_append) (lv_room (by rw [catS_map]; exact m8)) d hcs
theorem Sm.callI {args : List Value} {n : Nat} (hc : Sm rv' G' 0 (ent G'.2.2.1 (.ref a :: args)) [] h e') (ho : G.1.cls = own) (hret : G'.2.2.2.1 = Option.none) (hnm : G'.1.name = "<init>")
    (hw1 : Cond.methodLink own i G'.1 ∈ lw_tbl) (hw2 : Cond.instanceMethod G'.1 ∈ lw_tbl) (hw4 : Cond.initialized G'.1.cls ∈ lw_tbl) (hw5 : Cond.code G'.1 G'.2.1 G'.2.2.1 G'.2.2.2.1 ∈ lw_tbl)
    (hm : okM G' G (.ref a :: args) st (n + 1)) (hp : (parseMethodDescriptor G'.1.desc).map (fun d => d.parameters.length) = some n) (hd : ∀ v ∈ args, ∀ x, v ≠ .double x) (d : decode G.2.1 pc = .ok (.invokespecial i, 3)) (hq : pc + 3 = q)
    (k : ∀ r h1, Sm rv G q lv ((rv' r).toList ++ st) h1 (e r h1)) {st0 : List Value} (hst : st0 = args.reverse ++ .ref a :: st) : Sm rv G pc lv st0 h (bd e' e) := by
  subst hst
  obtain ⟨⟨m1, m2, m3, m4⟩, m5, m6, m7, m8⟩ := hm
  refine Sm.of_run hc (by intro v hv; rcases List.mem_cons.mp hv with rfl | h9; exact (fun x h => by cases h); exact hd v h9) m5 m1 m2 m3 hq k fun D dA z b mc ms p l e0 R s m args' below meth c H locs cells slots ls Qc C1 C2 C3 C4 C5 C8 C7 hP hls hfr hlo hcs hM hpre => ?_
  have hg5 := goodG hw5
  refine va_runI (As := args.map (cv z b)) (rest := st.map (cv z b)) (own := own) (bytes := G'.2.1) (maxL := G'.2.2.1) ⟨C1, C2, C3, by rw [← ho]; exact C4, C5⟩ hM (cwI (ws' := TBg) n C5 hg5 (by unfold wsG; rw [hret]) rfl rfl (C5 _ (tbg hw4 rfl)) (C5 _ (tbg hw1 rfl)) (C5 _ (tbg hw2 rfl)) hnm ⟨m7.1, m7.2, hp⟩ (room_of m3 m4 hfr hlo)) ⟨PcG.blind, hpre⟩ rfl ?_ hls ?_ (lv_room ?_) d hcs
  · rw [List.length_map]; simpa using m6
  · rw [map_rev, List.map_append]; rfl
  · rw [catS_map]; exact m8
theorem Sm.callIN {args : List Value} {n : Nat} (hc : Sm rv' G' 0 (ent G'.2.2.1 (.ref a :: args)) [] h e') (ho : G.1.cls = own) (hret : G'.2.2.2.1 = Option.none) (hnm : G'.1.name = "<init>")
    (hw1 : Cond.methodLinkNest own i G'.1 host ∈ lw_tbl) (hw2 : Cond.instanceMethod G'.1 ∈ lw_tbl) (hw4 : Cond.initialized G'.1.cls ∈ lw_tbl) (hw5 : Cond.code G'.1 G'.2.1 G'.2.2.1 G'.2.2.2.1 ∈ lw_tbl)
    (hm : okM G' G (.ref a :: args) st (n + 1)) (hp : (parseMethodDescriptor G'.1.desc).map (fun d => d.parameters.length) = some n) (hd : ∀ v ∈ args, ∀ x, v ≠ .double x) (d : decode G.2.1 pc = .ok (.invokespecial i, 3)) (hq : pc + 3 = q)
    (k : ∀ r h1, Sm rv G q lv ((rv' r).toList ++ st) h1 (e r h1)) {st0 : List Value} (hst : st0 = args.reverse ++ .ref a :: st) : Sm rv G pc lv st0 h (bd e' e) := by
  subst hst
  obtain ⟨⟨m1, m2, m3, m4⟩, m5, m6, m7, m8⟩ := hm
  refine Sm.of_run hc (by intro v hv; rcases List.mem_cons.mp hv with rfl | h9; exact (fun x h => by cases h); exact hd v h9) m5 m1 m2 m3 hq k fun D dA z b mc ms p l e0 R s m args' below meth c H locs cells slots ls Qc C1 C2 C3 C4 C5 C8 C7 hP hls hfr hlo hcs hM hpre => ?_
  have hg5 := goodG hw5
  have hws : wsG G' = Cond.code G'.1 G'.2.1 G'.2.2.1 Option.none :: TBg := by unfold wsG; rw [hret]
  refine va_runIN (As := args.map (cv z b)) (rest := st.map (cv z b)) (own := own) (host := host) (bytes := G'.2.1) (maxL := G'.2.2.1) ⟨C1, C2, C3, by rw [← ho]; exact C4, C5⟩ hM ⟨va_cnB n C5 hg5 hws rfl rfl (C8.1 _ (nwi hw1 rfl)) (C5 _ (tbg hw4 rfl)) ⟨m7.1, m7.2, hp⟩ (room_of m3 m4 hfr hlo), hnm, C5 _ (tbg hw2 rfl)⟩ ⟨PcG.blind, hpre⟩ rfl ?_ hls ?_ (lv_room ?_) d hcs
  · rw [List.length_map]; simpa using m6
  · rw [map_rev, List.map_append]; rfl
  · rw [catS_map]; exact m8
end SM
