/-! switches, names, loops -/
/-- x gets a name -/
def nm {α β : Type} (x : α) (f : α → β) : β := f x
/-- a loop: its body knows how it goes on -/
def loopN {σ α : Type} (body : (σ → Option α) → σ → Option α) : Nat → σ → Option α
  | 0, _ => none
  | n + 1, s => body (loopN body n) s
section SM
variable {ρ : Type} {rv : ρ → Option Value} {G : Gx} {pc q : Nat} {lv st : List Value} {h : Hp} {e : Option (ρ × Hp)}
theorem Sm.nm {α : Type} {x : α} {f : α → Option (ρ × Hp)} {LV ST : α → List Value} (k : ∀ y, Sm rv G pc (LV y) (ST y) h (f y)) : Sm rv G pc (LV x) (ST x) h (Jvm.Pilot.@@N@@.nm x f) := k x
theorem Sm.loop {σ : Type} {body : (σ → Option (ρ × Hp)) → σ → Option (ρ × Hp)} {LV : σ → List Value} {HH : σ → Hp} (step : ∀ k, (∀ s, Sm rv G pc (LV s) [] (HH s) (k s)) → ∀ s, Sm rv G pc (LV s) [] (HH s) (body k s)) : ∀ (n : Nat) (s : σ), Sm rv G pc (LV s) [] (HH s) (loopN body n s)
  | 0, _ => Sm.none
  | n + 1, s => step _ (Sm.loop step n) s
theorem Sm.objInit {a i : Nat} {own : String} (d : decode G.2.1 pc = .ok (.invokespecial i, 3)) (ho : G.1.cls = own) (hw : Cond.methodLink own i Lib.objectInit ∈ lw_tbl) (hw2 : Cond.instanceMethod Lib.objectInit ∈ lw_tbl) (hw3 : Cond.code Lib.objectInit ⟨#[0xb1]⟩ 1 Option.none ∈ lw_tbl) (hdep : 1 ≤ G.2.2.2.2) (hcat : catS st ≤ 8) (hq : pc + 3 = q) (k : Sm rv G q lv st h e) : Sm rv G pc lv (.ref a :: st) h e := by
  intro r h' he
  obtain ⟨k1, k2, k3⟩ := k r h' he
  refine ⟨k1, k2, fun D dA z b c0 t0 p l e0 R s m args below meth c Q C hc hs' hr h0 h1 H locs ls hl hR hS => ?_⟩
  obtain ⟨C1, C2, C3, C4, C5, C6, C7, C8, C9, C10, C11, C12⟩ := id C
  subst hq
  have hcs := catS_map (z := z) (b := b) st
  refine W.objInit (own := own) (idx := i) (rest := st.map (cv z b)) C1 C2 (by rw [← ho]; exact C4) (C5 _ (tbg hw rfl)) (C5 _ (tbg hw2 rfl)) (C5 _ (tbg hw3 rfl)) rfl (hl.1.trans C3.symm) rfl d (by omega) ?_ ?_
  · show 2 * 0 + _ + 12 ≤ _
    omega
  · exact k3 D dA z b c0 t0 p l e0 R s m args below meth c Q C hc hs' hr h0 h1 H locs ls hl hR hS
theorem Sm.tsAt {x k : Int32} {dflt lo hi off : Int} {offs : Array Int} {len t : Nat} (hx : x = k) (d : decode G.2.1 pc = .ok (.tableswitch dflt lo hi offs, len)) (h1 : ¬ k.toInt < lo) (h2 : ¬ hi < k.toInt) (ho : offs[(k.toInt - lo).toNat]? = some off) (ht : (pc : Int) + off = (t : Int)) (kk : Sm rv G t lv st h e) : Sm rv G pc lv (.int x :: st) h e := by
  subst hx
  exact kk.lift fun z b p l e0 R s m args below meth c H locs cells slots Q ls hx hb _ _ hl kk => lv_tableIn hx hb d h1 h2 ho ht (kk ls hl)
theorem Sm.tsOut {x : Int32} {dflt lo hi : Int} {offs : Array Int} {len t : Nat} (d : decode G.2.1 pc = .ok (.tableswitch dflt lo hi offs, len)) (h1 : x.toInt < lo ∨ hi < x.toInt) (ht : (pc : Int) + dflt = (t : Int)) (kk : Sm rv G t lv st h e) : Sm rv G pc lv (.int x :: st) h e :=
  kk.lift fun z b p l e0 R s m args below meth c H locs cells slots Q ls hx hb _ _ hl kk => lv_tableOut hx hb d h1 ht (kk ls hl)
theorem Sm.lsAt {x k : Int32} {dflt off : Int} {ps : Array (Int × Int)} {len t : Nat} (hx : x = k) (d : decode G.2.1 pc = .ok (.lookupswitch dflt ps, len)) (hp : (ps.toList.zip (ps.toList.drop 1)).all (fun (a, next) => a.1 < next.1) = true) (ho : Op.lookupswitch.offset ps.toList dflt k.toInt = off) (ht : (pc : Int) + off = (t : Int)) (kk : Sm rv G t lv st h e) : Sm rv G pc lv (.int x :: st) h e := by
  subst hx
  exact kk.lift fun z b p l e0 R s m args below meth c H locs cells slots Q ls hx hb _ _ hl kk => lv_lookup hx hb d hp ho ht (kk ls hl)
theorem Sm.lsOut {x : Int32} {dflt off : Int} {ps : Array (Int × Int)} {len t : Nat} (d : decode G.2.1 pc = .ok (.lookupswitch dflt ps, len)) (hp : (ps.toList.zip (ps.toList.drop 1)).all (fun (a, next) => a.1 < next.1) = true) (ho : Op.lookupswitch.offset ps.toList dflt x.toInt = off) (ht : (pc : Int) + off = (t : Int)) (kk : Sm rv G t lv st h e) : Sm rv G pc lv (.int x :: st) h e :=
  kk.lift fun z b p l e0 R s m args below meth c H locs cells slots Q ls hx hb _ _ hl kk => lv_lookup hx hb d hp ho ht (kk ls hl)
end SM
