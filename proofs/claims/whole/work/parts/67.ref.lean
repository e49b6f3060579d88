/-! THE REFERENCE: sets -/
theorem alI_star (f : Nat → Int64) {p : Nat} (hp : p < 64) : alI f p (farN f p) = starI f p := by
  have reach : ∀ n q, q < 64 → bq (alI f p n) q = true → Rch f p q := by
    intro n
    induction n with
    | zero =>
      intro q hq hb
      rw [show alI f p 0 = ob p from rfl, bq_ob p hp q hq] at hb
      rw [of_decide_eq_true hb]; exact Rch.rf
    | succ n ih =>
      intro q hq hb
      have hb : bq (alI f p n ||| seqI (alI f p n) f) q = true := hb
      rw [bq_or, Bool.or_eq_true] at hb
      rcases hb with hb | hb
      · exact ih q hq hb
      · obtain ⟨r, r1, r2, r3⟩ := (bq_seqI _ _ _).mp hb
        exact (ih r r1 r2).tr (Rch.st hq r3 Rch.rf)
  refine bq_eq (fun q hq => ?_)
  rw [bq_starI f p hq]
  refine ⟨reach _ q hq, fun t => ?_⟩
  have := t.ind (S := fun x => x < 64 ∧ bq (alI f p (farN f p)) x = true) (fun r q ⟨h1, h2⟩ hq hb => ⟨hq, ?_⟩) ⟨hp, ?_⟩
  · exact this.2
  · rw [← farN_yes f hp]
    show bq (alI f p (farN f p) ||| seqI (alI f p (farN f p)) f) q = true
    rw [bq_or, (bq_seqI _ _ _).mpr ⟨r, h1, h2, hb⟩, Bool.or_true]
  · have : ∀ n, bq (alI f p n) p = true := by
      intro n
      induction n with
      | zero => rw [show alI f p 0 = ob p from rfl, bq_ob p hp p hp]; exact decide_eq_true rfl
      | succ n ih => exact alI_sub f p n ih
    exact this _
theorem al_front (f : Nat → Int64) (p k : Nat) : seqI (alI f p k) f &&& (alI f p k ^^^ (-1)) = edI f p (k + 1) := by
  refine bq_eq (fun i hi => ?_)
  rw [bq_ed hi, bq_and, bq_not _ hi]
  show _ ↔ (bq (alI f p k ||| seqI (alI f p k) f) i && _) = true
  rw [bq_or]
  cases bq (alI f p k) i <;> cases bq (seqI (alI f p k) f) i <;> simp
section REF
variable {h : Hp}
theorem X10_turned (L : Lay h) {b : Nat} (hb : b + 64 ≤ 4096) (x : Int64) : f_X10_turned 123 x (nI b) h = some (seqI x (fun q => gL h 139 (b + q)), h) := by
  apply Tr.of_eq
  refine Tr.up (N := 64) (J := fun k y => y = (orF x (fun q => gL h 139 (b + q)) k, nI k)) ?_ ?_ (p := 0) rfl (Nat.zero_le _) (by omega)
  · intro k y kk hk hJ hk'
    subst hJ
    dsimp only
    refine Tr.neg (nI_ge (b := 64) hk (by decide)) ?_
    by_cases c : bq x k = true
    · refine Tr.pos ((sar_1 hk).mpr c) (Tr.ck (Lo_123 L) (Tr.gp (Lp_123_24 L) ?_))
      rw [nI_add]
      refine Tr.ca (La_139 L (by omega)) (Tr.nmx (Tr.nmx (hk' _ ?_)))
      rw [nI_clamp (by omega), nI_1]
      show _ = (orF x (fun q => gL h 139 (b + q)) k ||| (if bq x k then gL h 139 (b + k) else 0), _)
      rw [if_pos c]
    · refine Tr.neg (fun z => c ((sar_1 hk).mp z)) (Tr.nmx (Tr.nmx (hk' _ ?_)))
      rw [nI_1]
      show _ = (orF x (fun q => gL h 139 (b + q)) k ||| (if bq x k then gL h 139 (b + k) else 0), _)
      rw [if_neg c]
  · intro y kk hJ
    subst hJ
    exact Tr.pos (nI_le (b := 64) (Nat.le_refl _) (by decide)) (Tr.ret ⟨rfl, rfl⟩)
theorem X10_reached (L : Lay h) {p b : Nat} (hp : p < 64) (hb : b + 64 ≤ 4096) : Tr (f_X10_reached 123 (nI p) (nI b) h) (fun r h1 => r = starI (fun q => gL h 139 (b + q)) p ∧ gI h1 140 p = nI (farN (fun q => gL h 139 (b + q)) p) ∧ Fr (fun a => a = 140) h h1) := by
  have hf := farN_lt (fun q => gL h 139 (b + q)) hp
  generalize hF : (fun q => gL h 139 (b + q)) = F at hf
  have tn : ∀ h1, Fr (fun a => a = 140) h h1 → ∀ x, f_X10_turned 123 x (nI b) h1 = some (seqI x F, h1) := fun h1 F1 x => by
    rw [X10_turned (F1.lay L) hb x, F1.L (show ¬ (139 = 140) by decide), hF]
  refine Tr.nm (fun v ev => ?_)
  have ev : v = ob p := ev
  subst ev
  refine Tr.ck (Lo_123 L) (Tr.be (tn h Fr.rf _) (Tr.nm (fun w ew => ?_)))
  have ew : w = edI F p 1 := by rw [ew]; exact al_front F p 0
  subst ew
  refine Tr.ck (Lo_123 L) (Tr.gp (Lp_123_26 L) (Tr.ca (La_140 L hp) ?_))
  rw [nI_clamp (by omega)]
  have F0 : Fr (fun a => a = 140) h (sI h 140 p 0) := Fr.sI rfl
  refine Tr.up (N := farN F p) (J := fun k y => y.1 = alI F p k ∧ y.2.1 = edI F p (k + 1) ∧ gI y.2.2 140 p = nI k ∧ Fr (fun a => a = 140) h y.2.2) ?_ ?_ (p := 0) ⟨rfl, rfl, by rw [gI_sI, upd_eq]; rfl, F0⟩ (Nat.zero_le _) (by omega)
  · intro k y kk hk hJ hk'
    obtain ⟨y1, y2, h1⟩ := y
    obtain ⟨ea, eb, ec, F1⟩ := hJ
    dsimp only at ea eb ec F1
    subst ea eb
    dsimp only
    have L1 := F1.lay L
    refine Tr.neg ?_ (Tr.ck (Lo_123 L1) (Tr.gp (Lp_123_26 L1) (Tr.ca (La_140 L1 hp) (Tr.ca (La_140 L1 hp) ?_))))
    · rw [lg_cmp_eq]; exact ed_ne F hp (k + 1) hk
    rw [nI_clamp (by omega), ec, nI_1, al_ed]
    have F2 : Fr (fun a => a = 140) h (sI h1 140 p (nI (k + 1))) := F1.tr (Fr.sI rfl)
    refine Tr.nmx (Tr.be (tn _ F2 _) (Tr.nmx (hk' _ ⟨rfl, al_front F p (k + 1), by rw [gI_sI, upd_eq], F2⟩)))
  · intro y kk hJ
    obtain ⟨y1, y2, h1⟩ := y
    obtain ⟨ea, eb, ec, F1⟩ := hJ
    dsimp only at ea eb ec F1
    rw [alI_star F hp] at ea
    rw [ed_z F hp] at eb
    dsimp only
    refine Tr.pos ?_ (Tr.ret ⟨ea, ec, F1⟩)
    rw [lg_cmp_eq]; exact eb
/-- the sets on the work stack, the newest first -/
def SetS (f : Nat → Int64) : List (Nat → Int64) → Prop
  | [] => True
  | R :: t => (∀ p, p < 64 → f (64 * t.length + p) = R p) ∧ SetS f t
theorem SetS.cg {f g : Nat → Int64} : ∀ {t : List (Nat → Int64)}, SetS f t → (∀ j, j < 64 * t.length → g j = f j) → SetS g t := by
  intro t
  induction t with
  | nil => intro _ _; trivial
  | cons R t ih =>
    intro s e
    rw [List.length_cons] at e
    exact ⟨fun p hp => by rw [e _ (by omega)]; exact s.1 p hp, ih s.2 (fun j hj => e j (by omega))⟩
/-- the work on sets: its cells; of 123 only the height changes -/
def eW : Nat → Prop := fun a => a = 123 ∨ (139 ≤ a ∧ a ≤ 141)
def EFr (h h1 : Hp) : Prop := Fr eW h h1 ∧ ∀ i, i ≠ 25 → gI h1 123 i = gI h 123 i
theorem EFr.rf : EFr h h := ⟨Fr.rf, fun _ _ => rfl⟩
theorem EFr.tr {h1 h2 : Hp} (a : EFr h h1) (b : EFr h1 h2) : EFr h h2 := ⟨a.1.tr b.1, fun i hi => by rw [b.2 i hi, a.2 i hi]⟩
theorem EFr.mi {G : St} {h1 : Hp} (K : EFr h h1) (M : MI h G) : MI h1 G := M.wk (K.1.wk (fun a x => by unfold eW at x; unfold mW; omega)) (K.2 2 (by decide)) (K.2 5 (by decide))
theorem EFr.of {A : Nat → Prop} {h1 : Hp} (F : Fr A h h1) (hA : ∀ a, A a → 139 ≤ a ∧ a ≤ 141) : EFr h h1 := ⟨F.wk (fun a x => Or.inr (hA a x)), fun i _ => by rw [F.I (fun z => by have := hA _ z; omega)]⟩
def SetT (h : Hp) (L : List (Nat → Int64)) : Prop := gI h 123 25 = nI L.length ∧ SetS (gL h 139) L
end REF
