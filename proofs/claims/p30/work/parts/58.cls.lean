/-! ROWS UNDER CONSTRUCTION: n operands wait -/
def Pre (l : List Nat) (n : Nat) : Prop := okc (cf l) l.length ∧ (rt (cf l) l.length).length = n ∧ ∀ c ∈ l, vcd c = true
theorem Pre.nil : Pre [] 0 := ⟨fun k hk => absurd hk (Nat.not_lt_zero _), rfl, fun c hc => by cases hc⟩
theorem rt_snoc (l : List Nat) (c : Nat) : rt (cf (l ++ [c])) (l ++ [c]).length = l.length :: (rt (cf l) l.length).drop (ar c) := by
  rw [List.length_append]
  show l.length :: (rt (cf (l ++ [c])) l.length).drop (ar (cf (l ++ [c]) l.length)) = _
  rw [cf_snoc, rt_congr (fun j hj => cf_app_l hj)]
theorem Pre.snoc {l : List Nat} {n c : Nat} (P : Pre l n) (hc : vcd c = true) (ha : ar c ≤ n) : Pre (l ++ [c]) (n - ar c + 1) := by
  obtain ⟨p1, p2, p3⟩ := P
  refine ⟨fun k hk => ?_, ?_, fun x hx => ?_⟩
  · rw [List.length_append, List.length_singleton] at hk
    by_cases e : k = l.length
    · subst e
      rw [cf_snoc, rt_congr (fun j hj => cf_app_l hj), p2]; exact ha
    · rw [cf_app_l (by omega), rt_congr (fun j hj => cf_app_l (by omega))]
      exact p1 k (by omega)
  · rw [rt_snoc, List.length_cons, List.length_drop, p2]
  · rcases List.mem_append.mp hx with h | h
    · exact p3 x h
    · rw [List.mem_singleton.mp h]; exact hc
theorem Pre.app {l m : List Nat} {n k : Nat} (P : Pre l n) (Q : Pre m k) : Pre (l ++ m) (n + k) := by
  obtain ⟨p1, p2, p3⟩ := P
  obtain ⟨q1, q2, q3⟩ := Q
  refine ⟨fun j hj => ?_, ?_, fun x hx => ?_⟩
  · rw [List.length_append] at hj
    by_cases e : j < l.length
    · rw [cf_app_l e, rt_congr (fun i hi => cf_app_l (by omega))]
      exact p1 j e
    · obtain ⟨i, rfl⟩ : ∃ i, j = l.length + i := ⟨j - l.length, by omega⟩
      rw [cf_app_r, rt_app (q1.le (by omega)), List.length_append, List.length_map]
      have := q1 i (by omega)
      omega
  · rw [List.length_append, rt_app q1, List.length_append, List.length_map, p2, q2]; omega
  · rcases List.mem_append.mp hx with h | h
    · exact p3 x h
    · exact q3 x h
theorem Wf.pre {l : List Nat} (W : Wf l) : Pre l 1 := ⟨W.1, W.2.1, W.2.2.2⟩
theorem Pre.wf {l : List Nat} (P : Pre l 1) (h : l.length ≤ 60) : Wf l := ⟨P.1, P.2.1, h, P.2.2⟩
/-- what waits, the newest first: whether each is a predicate -/
def sB (l : List Nat) : List Bool := fld false opB (cf l) l.length
theorem sB_snoc (l : List Nat) (c : Nat) : sB (l ++ [c]) = opB c ((sB l).getD 0 false) ((sB l).getD 1 false) ((sB l).getD 2 false) :: (sB l).drop (ar c) := by
  unfold sB
  rw [List.length_append]
  have e : fld false opB (cf (l ++ [c])) l.length = fld false opB (cf l) l.length := fld_congr _ _ (fun j hj => cf_app_l hj)
  show opB (cf (l ++ [c]) l.length) ((fld false opB (cf (l ++ [c])) l.length).getD 0 false) ((fld false opB (cf (l ++ [c])) l.length).getD 1 false) ((fld false opB (cf (l ++ [c])) l.length).getD 2 false) :: (fld false opB (cf (l ++ [c])) l.length).drop (ar (cf (l ++ [c]) l.length)) = _
  rw [e, cf_snoc]
theorem opB_hop (c : Nat) (a0 a1 a2 b0 b1 b2 : Bool) (h0 : 0 < ar c → a0 = b0) (h1 : 1 < ar c → a1 = b1) (_h2 : 2 < ar c → a2 = b2) : opB c a0 a1 a2 = opB c b0 b1 b2 := by
  unfold opB
  by_cases c1 : c < 48
  · rw [if_pos c1, if_pos c1]
  · rw [if_neg c1, if_neg c1]
    by_cases c2 : c < 64
    · rw [if_pos c2, if_pos c2]
    · rw [if_neg c2, if_neg c2]
      by_cases c3 : c < 96
      · have e : ar c = 2 := by unfold ar; rw [if_neg c2, if_pos c3]
        rw [if_pos c3, if_pos c3, h0 (by omega), h1 (by omega)]
      · rw [if_neg c3, if_neg c3]
        by_cases c4 : c < 112
        · rw [if_pos c4, if_pos c4]
        · rw [if_neg c4, if_neg c4]
          by_cases c5 : c < 128
          · have e : ar c = 1 := by unfold ar; rw [if_neg c2, if_neg c3, if_pos c5]
            rw [if_pos c5, if_pos c5, h0 (by omega)]
          · have e : ar c = 3 := by unfold ar; rw [if_neg c2, if_neg c3, if_neg c5]
            rw [if_neg c5, if_neg c5, h0 (by omega), h1 (by omega)]
theorem sB_app {l m : List Nat} (hm : okc (cf m) m.length) : sB (l ++ m) = sB m ++ sB l := by
  unfold sB
  rw [List.length_append, fld_app false opB opB_hop hm]
theorem sB_len {l : List Nat} {n : Nat} (P : Pre l n) : (sB l).length = n := by unfold sB; rw [fld_len, P.2.1]
theorem sB_one {l : List Nat} (P : Pre l 1) : sB l = [prd l] := by
  have h := sB_len P
  have e : prd l = (sB l).getD 0 false := rfl
  rw [e]
  match h2 : sB l, h with
  | [x], _ => rfl
section CLS2
variable {h : Hp} {G : St}
def aStore (G : St) (t : Nat) (m : List Nat) : Int32 × St := if m.length ≤ 60 then (nI m.length, stoS G t m) else (-4, failS G 2)
theorem PA_36 {t q : Nat} (ht : t < 4) (h : 36 + 22 * t ≠ q) (hq : PA q) : ¬ pR (36 + 22 * t) q ∧ ¬ pR (36 + 22 * t) (q + 1) ∧ ¬ pR (36 + 22 * t) (q + 2) := by
  have hap := PA_apart _ (PA_s ht) _ hq h
  refine ⟨fun x => ?_, fun x => ?_, fun x => ?_⟩ <;> (unfold pR at x; omega)
theorem X9_store (C : CI h G) {t q : Nat} {m : List Nat} (ht : t < 4) (hq : PA q) (hq2 : 22 ≤ q) (hq3 : q ≤ 32) (Q : PolI h q m (prd m)) (P : Pre m 1) (hl : m.length < 2 ^ 30) : Tr (f_X9_store 1 q (nI t) h) (CP h (aStore G t m)) := by
  have L := C.1
  obtain ⟨c1, c2, c3, c4, c5, c6, c7⟩ := id C
  unfold aStore
  by_cases h60 : m.length ≤ 60
  · rw [if_pos h60]
    refine Tr.ck (Lpo L hq) (Tr.be (X4_nodeCount L hq Q) (Tr.pos (nI_le (b := 60) h60 (by decide)) (Tr.ck (Lo_1 L) (Tr.gp (Lp_1_3 L) (Tr.gp (Lp_1_2 L) (Tr.ca (La_3 L ht) ?_))))))
    rw [nI_clamp (by omega)]
    refine Tr.gp (Lp_3 L ht) (Tr.ck (Lso_35 L ht) (Tr.be (X7_policy L ht) (Tr.ck (Lo_4 L) (Tr.bd (X2_save L c7 ht (PA_s ht) (by omega) (c6 t ht).1 (c6 t ht).2.1) (fun _ h1 z => ?_)))))
    obtain ⟨H1, F1⟩ := z
    have L1 := F1.lay L
    have Q1 := Q.fr F1 (fun z => by unfold hiR at z; omega) (fun z => by unfold hiR at z; omega) (fun z => by unfold hiR at z; omega)
    refine Tr.ck (Lo_1 L1) (Tr.gp (Lp_1_2 L1) (Tr.ca (La_3 L1 ht) ?_))
    have hne : 36 + 22 * t ≠ q := by omega
    refine Tr.gp (Lp_3 L1 ht) (Tr.ck (Lso_35 L1 ht) (Tr.bd (X7_hold L1 ht hq hne Q1 (P.wf h60)) (fun _ h2 z => ?_)))
    obtain ⟨K2, F2⟩ := z
    have L2 := F2.lay L1
    have Q2 := Q1.fr F2 (fun z => by unfold hoR at z; omega) (fun z => by unfold hoR at z; omega) (fun z => by unfold hoR at z; omega)
    have FF : Fr (fun a => hiR a ∨ hoR t a) h h2 := (F1.wk (fun a x => Or.inl x)).tr (F2.wk (fun a x => Or.inr x))
    refine Tr.ck (Lpo L2 hq) (Tr.be (X4_nodeCount L2 hq Q2) (Tr.ret ⟨rfl, ⟨L2, ?_, c3, ?_, ?_, fun s hs => ?_, ?_⟩, FF.wk (fun a x => by rcases x with x | x; unfold hiR at x; show 1 ≤ a ∧ a ≤ 122; omega; unfold hoR at x; show 1 ≤ a ∧ a ≤ 122; omega)⟩))
    · rw [FF.I (fun z => by rcases z with z | z; unfold hiR at z; omega; unfold hoR at z; omega)]; exact c2
    · rw [FF.I (fun z => by rcases z with z | z; unfold hiR at z; omega; unfold hoR at z; omega)]; exact c4
    · rw [FF.I (fun z => by rcases z with z | z; unfold hiR at z; omega; unfold hoR at z; omega)]; exact c5
    · show SlotOK h2 s (va_up G.2.2.1 t m s)
      by_cases e : s = t
      · subst e; rw [upd_eq]; exact K2
      · rw [upd_ne e]
        exact (c6 s hs).fr FF (fun a x y z => by unfold slR at x; rcases z with z | z; unfold hiR at z; omega; unfold hoR at z; omega)
    · exact H1.fr F2 (fun a x z => by unfold hiR at x; unfold hoR at z; omega)
  · rw [if_neg h60]
    exact Tr.ck (Lpo L hq) (Tr.be (X4_nodeCount L hq Q) (Tr.neg (nI_ge (a := 60) (b := m.length) (by omega) (by omega)) (X9_fl (e := 2) (f := fun v => v) C (by decide) (by decide))))
/-- the draft is stored -/
def drR : Nat → Prop := fun a => 32 ≤ a ∧ a ≤ 34
theorem CI.dr {h1 : Hp} (C : CI h G) (F : Fr drR h h1) : CI h1 G := by
  obtain ⟨c1, c2, c3, c4, c5, c6, c7⟩ := C
  exact ⟨F.lay c1, by rw [F.I (fun z => by unfold drR at z; omega)]; exact c2, c3, by rw [F.I (fun z => by unfold drR at z; omega)]; exact c4, by rw [F.I (fun z => by unfold drR at z; omega)]; exact c5, fun s hs => (c6 s hs).fr F (fun a x y z => by unfold slR at x; unfold drR at z; omega), c7.fr F (fun a x z => by unfold hiR at x; unfold drR at z; omega)⟩
theorem CP.dr {α : Type} {h1 h2 : Hp} {a : α × St} {r : α} (F : Fr drR h h1) (q : CP h1 a r h2) : CP h a r h2 := ⟨q.1, q.2.1, (F.wk (fun a x => by unfold drR at x; show 1 ≤ a ∧ a ≤ 122; omega)).tr q.2.2⟩
theorem PA32 : PA 32 := (by decide : (32 : Nat) ∈ PAl)
def bit (x : Int32) : Option Nat := if x = 0 then some 0 else if x = 1 then some 1 else none
def aCombine (G : St) (o x y z : Int32) : Int32 × St := match bit o with
  | none => (-2, failS G 0)
  | some o => match sl x with
    | none => (-2, failS G 0)
    | some s => match sl y with
      | none => (-2, failS G 0)
      | some t => match sl z with
        | none => (-2, failS G 0)
        | some u => aStore G u (G.2.2.1 s ++ G.2.2.1 t ++ [64 + 16 * o])
def aModify (G : St) (o x z : Int32) : Int32 × St := match bit o with
  | none => (-2, failS G 0)
  | some o => match sl x with
    | none => (-2, failS G 0)
    | some s => match sl z with
      | none => (-2, failS G 0)
      | some u => if o = 1 ∧ prd (G.2.2.1 s) = false then (-3, failS G 1) else aStore G u (G.2.2.1 s ++ [96 + 16 * o])
theorem X9_ob {α : Type} {Q : α → Hp → Prop} {A B : Hp → Option (α × Hp)} (x : Int32) (hA : bit x = none → Tr (A h) Q) (hB : ∀ o, o < 2 → x = nI o → bit x = some o → Tr (B h) Q) : Tr (bd (f_X9_isBit x h) fun v h2 => if v = 0 then A h2 else B h2) Q := by
  by_cases h0 : x = 0
  · subst h0
    exact Tr.be (r := 1) (h1 := h) rfl (Tr.neg (by decide) (hB 0 (by decide) rfl rfl))
  · by_cases h1 : x = 1
    · subst h1
      exact Tr.be (r := 1) (h1 := h) rfl (Tr.neg (by decide) (hB 1 (by decide) rfl rfl))
    · refine Tr.be (r := 0) (h1 := h) ?_ (Tr.pos rfl (hA ?_))
      · apply Tr.of_eq
        exact Tr.neg h0 (Tr.neg h1 (Tr.ret ⟨rfl, rfl⟩))
      · unfold bit; rw [if_neg h0, if_neg h1]
theorem X9_cm126 {h0 : Hp} (C : CI h G) (F0 : Fr drR h0 h) {u : Nat} {m : List Nat} {b c : Bool} (hu : u < 4) (P : Pre m 1) (hl : m.length < 2 ^ 30) (Q : PolI h 32 m b) (hc : c = prd m) : Tr (f_X9_combine_126 1 (nI u) 32 (bi c) h) (CP h0 (aStore G u m)) := by
  have h32 := PA32
  refine Tr.ck (Lpo C.1 h32) (Tr.bd (X4_mark C.1 h32 Q c) (fun _ h1 z => ?_))
  obtain ⟨Q1, F1⟩ := z
  have F1 : Fr drR h h1 := F1.wk (fun a x => x)
  have C1 := C.dr F1
  rw [hc] at Q1
  refine Tr.ck (Lo_1 C1.1) (Tr.gp (Lp_1_7 C1.1) (Tr.bd (Tr.imp (X9_store C1 hu h32 (by decide) (by decide) Q1 P hl) (fun v h2 q => CP.dr (F0.tr F1) q)) (fun v h2 q => Tr.ret q)))
theorem X9_cm96 {h0 : Hp} (C : CI h G) (F0 : Fr drR h0 h) {s t u o : Nat} {b : Bool} (hs : s < 4) (ht : t < 4) (hu : u < 4) (ho : o < 2) (Q : PolI h 32 (G.2.2.1 s ++ G.2.2.1 t) b) : Tr (f_X9_combine_96 1 (nI u) (36 + 22 * s) (36 + 22 * t) 32 (nI (4 + o)) h) (CP h0 (aStore G u (G.2.2.1 s ++ G.2.2.1 t ++ [64 + 16 * o]))) := by
  have h32 := PA32
  have Ws := (C.slot hs).2.1
  have Wt := (C.slot ht).2.1
  have P2 : Pre (G.2.2.1 s ++ G.2.2.1 t) 2 := Ws.pre.app Wt.pre
  have hv : vcd (64 + 16 * o) = true := by
    rcases (by omega : o = 0 ∨ o = 1) with rfl | rfl <;> rfl
  have ha : ar (64 + 16 * o) = 2 := by unfold ar; rw [if_neg (by omega), if_pos (by omega)]
  have P3 : Pre (G.2.2.1 s ++ G.2.2.1 t ++ [64 + 16 * o]) 1 := by
    have := P2.snoc hv (by omega)
    rwa [ha] at this
  have hlen : (G.2.2.1 s ++ G.2.2.1 t ++ [64 + 16 * o]).length < 2 ^ 30 := by
    have := Ws.2.2.1; have := Wt.2.2.1
    simp only [List.length_append, List.length_singleton]; omega
  have hp : prd (G.2.2.1 s ++ G.2.2.1 t ++ [64 + 16 * o]) = (prd (G.2.2.1 s) && prd (G.2.2.1 t)) := by
    have e : prd (G.2.2.1 s ++ G.2.2.1 t ++ [64 + 16 * o]) = (sB (G.2.2.1 s ++ G.2.2.1 t ++ [64 + 16 * o])).getD 0 false := rfl
    rw [e, sB_snoc, sB_app Wt.1, sB_one Ws.pre, sB_one Wt.pre]
    show opB (64 + 16 * o) (prd (G.2.2.1 t)) (prd (G.2.2.1 s)) false = _
    unfold opB
    rw [if_neg (by omega), if_neg (by omega), if_pos (by omega)]
  refine Tr.ck (Lpo C.1 h32) (Tr.bd (X4_add C.1 h32 Q (by simp only [List.length_append, List.length_singleton] at hlen ⊢; omega) (kd := 4 + o) (f := 0) (v := 0) (by omega) (by decide) (by decide)) (fun _ h1 z => ?_))
  obtain ⟨Q1, F1⟩ := z
  have F1 : Fr drR h h1 := F1.wk (fun a x => x)
  have C1 := C.dr F1
  have L1 := C1.1
  rw [show 16 * (4 + o) + 4 * 0 + 0 = 64 + 16 * o by omega] at Q1
  refine Tr.ck (Lo_1 L1) (Tr.gp (Lp_1_7 L1) (Tr.ck (Lso_36 L1 hs) (Tr.be (X4_givesPredicate L1 (PA_s hs) (C1.slot hs).1) ?_)))
  cases h1s : prd (G.2.2.1 s) with
  | false =>
    rw [h1s] at hp
    exact Tr.pos rfl (X9_cm126 C1 (F0.tr F1) (c := false) hu P3 hlen Q1 (by rw [hp]; rfl))
  | true =>
    refine Tr.neg (by decide) (Tr.ck (Lso_36 L1 ht) (Tr.be (X4_givesPredicate L1 (PA_s ht) (C1.slot ht).1) ?_))
    rw [h1s] at hp
    cases h1t : prd (G.2.2.1 t) with
    | false =>
      rw [h1t] at hp
      exact Tr.pos rfl (X9_cm126 C1 (F0.tr F1) (c := false) hu P3 hlen Q1 (by rw [hp]; rfl))
    | true =>
      rw [h1t] at hp
      exact Tr.neg (by decide) (X9_cm126 C1 (F0.tr F1) (c := true) hu P3 hlen Q1 (by rw [hp]; rfl))
theorem X9_combine (C : CI h G) (o x y z : Int32) : Tr (f_X9_combine 1 o x y z h) (CP h (aCombine G o x y z)) := by
  unfold aCombine
  refine X9_ob o (fun e => ?_) (fun o ho e e2 => ?_)
  · rw [e]; exact X9_fl C (by decide) (by decide)
  rw [e2, e]
  refine X9_os x (fun e => ?_) (fun s hs e e2 => ?_)
  · rw [e]; exact X9_fl C (by decide) (by decide)
  rw [e2, e]
  refine X9_os y (fun e => ?_) (fun t ht e e2 => ?_)
  · rw [e]; exact X9_fl C (by decide) (by decide)
  rw [e2, e]
  refine X9_os z (fun e => ?_) (fun u hu e e2 => ?_)
  · rw [e]; exact X9_fl C (by decide) (by decide)
  rw [e2, e]
  dsimp only
  have L := C.1
  have h32 := PA32
  refine Tr.ck (Lo_1 L) (Tr.gp (Lp_1_2 L) (Tr.ca (La_3 L hs) ?_))
  rw [nI_clamp (by omega)]
  refine Tr.gp (Lp_3 L hs) (Tr.ck (Lso_35 L hs) (Tr.be (X7_policy L hs) (Tr.ck (Lo_1 L) (Tr.gp (Lp_1_2 L) (Tr.ca (La_3 L ht) ?_)))))
  rw [nI_clamp (by omega)]
  refine Tr.gp (Lp_3 L ht) (Tr.ck (Lso_35 L ht) (Tr.be (X7_policy L ht) (Tr.ck (Lo_1 L) (Tr.gp (Lp_1_7 L) (Tr.ck (Lpo L h32) (Tr.bd (X4_start L h32) (fun _ h1 z => ?_)))))))
  obtain ⟨Q1, F1⟩ := z
  have F1 : Fr drR h h1 := F1.wk (fun a x => x)
  have C1 := C.dr F1
  have L1 := C1.1
  have Ws := (C.slot hs).2.1
  have Wt := (C.slot ht).2.1
  refine Tr.ck (Lo_1 L1) (Tr.gp (Lp_1_7 L1) (Tr.ck (Lpo L1 h32) (Tr.bd (X4_addAll L1 h32 (PA_s hs) (by omega) Q1 (C1.slot hs).1 (by simp) Ws.2.2.1 Ws.1) (fun _ h2 z => ?_))))
  obtain ⟨Q2, F2⟩ := z
  have F2 : Fr drR h1 h2 := F2.wk (fun a x => x)
  have C2 := C1.dr F2
  have L2 := C2.1
  rw [List.nil_append] at Q2
  refine Tr.ck (Lo_1 L2) (Tr.gp (Lp_1_7 L2) (Tr.ck (Lpo L2 h32) (Tr.bd (X4_addAll L2 h32 (PA_s ht) (by omega) Q2 (C2.slot ht).1 (by have := Ws.2.2.1; omega) Wt.2.2.1 Wt.1) (fun _ h3 z => ?_))))
  obtain ⟨Q3, F3⟩ := z
  have F3 : Fr drR h2 h3 := F3.wk (fun a x => x)
  have C3 := C2.dr F3
  have L3 := C3.1
  refine Tr.ck (Lo_1 L3) (Tr.gp (Lp_1_7 L3) ?_)
  rcases (by omega : o = 0 ∨ o = 1) with rfl | rfl
  · exact Tr.pos rfl (X9_cm96 (o := 0) C3 ((F1.tr F2).tr F3) hs ht hu (by decide) Q3)
  · exact Tr.neg (by decide) (X9_cm96 (o := 1) C3 ((F1.tr F2).tr F3) hs ht hu (by decide) Q3)
theorem X9_md71 (C : CI h G) {s u o : Nat} (hs : s < 4) (hu : u < 4) (ho : o < 2) (hp : o = 1 → prd (G.2.2.1 s) = true) : Tr (f_X9_modify_71 1 (nI u) (36 + 22 * s) (nI o) h) (CP h (aStore G u (G.2.2.1 s ++ [96 + 16 * o]))) := by
  have L := C.1
  have h32 := PA32
  refine Tr.ck (Lo_1 L) (Tr.gp (Lp_1_7 L) (Tr.ck (Lpo L h32) (Tr.bd (X4_start L h32) (fun _ h1 z => ?_))))
  obtain ⟨Q1, F1⟩ := z
  have F1 : Fr drR h h1 := F1.wk (fun a x => x)
  have C1 := C.dr F1
  have L1 := C1.1
  have Ws := (C.slot hs).2.1
  refine Tr.ck (Lo_1 L1) (Tr.gp (Lp_1_7 L1) (Tr.ck (Lpo L1 h32) (Tr.bd (X4_addAll L1 h32 (PA_s hs) (by omega) Q1 (C1.slot hs).1 (by simp) Ws.2.2.1 Ws.1) (fun _ h2 z => ?_))))
  obtain ⟨Q2, F2⟩ := z
  have F2 : Fr drR h1 h2 := F2.wk (fun a x => x)
  have C2 := C1.dr F2
  have L2 := C2.1
  rw [List.nil_append] at Q2
  have hv : vcd (96 + 16 * o) = true := by
    rcases (by omega : o = 0 ∨ o = 1) with rfl | rfl <;> rfl
  have ha : ar (96 + 16 * o) = 1 := by unfold ar; rw [if_neg (by omega), if_neg (by omega), if_pos (by omega)]
  have P3 : Pre (G.2.2.1 s ++ [96 + 16 * o]) 1 := by
    have := Ws.pre.snoc hv (by omega)
    rwa [ha] at this
  have hlen : (G.2.2.1 s ++ [96 + 16 * o]).length < 2 ^ 30 := by
    have := Ws.2.2.1
    simp only [List.length_append, List.length_singleton]; omega
  have hpp : prd (G.2.2.1 s ++ [96 + 16 * o]) = decide (o = 1) := by
    have e : prd (G.2.2.1 s ++ [96 + 16 * o]) = (sB (G.2.2.1 s ++ [96 + 16 * o])).getD 0 false := rfl
    rw [e, sB_snoc, sB_one Ws.pre]
    show opB (96 + 16 * o) (prd (G.2.2.1 s)) false false = _
    unfold opB
    rcases (by omega : o = 0 ∨ o = 1) with rfl | rfl
    · rfl
    · exact hp rfl
  have go : ∀ kd, kd = nI (6 + o) → Tr (f_X9_modify_103 1 (nI u) (nI o) 32 kd h2) (CP h (aStore G u (G.2.2.1 s ++ [96 + 16 * o]))) := by
    intro kd ek
    subst ek
    refine Tr.ck (Lpo L2 h32) (Tr.bd (X4_add L2 h32 Q2 (by have := Ws.2.2.1; omega) (kd := 6 + o) (f := 0) (v := 0) (by omega) (by decide) (by decide)) (fun _ h3 z => ?_))
    obtain ⟨Q3, F3⟩ := z
    have F3 : Fr drR h2 h3 := F3.wk (fun a x => x)
    have C3 := C2.dr F3
    have L3 := C3.1
    rw [show 16 * (6 + o) + 4 * 0 + 0 = 96 + 16 * o by omega] at Q3
    have eo : nI o = bi (decide (o = 1)) := by rcases (by omega : o = 0 ∨ o = 1) with rfl | rfl <;> rfl
    rw [eo]
    refine Tr.ck (Lo_1 L3) (Tr.gp (Lp_1_7 L3) (Tr.ck (Lpo L3 h32) (Tr.bd (X4_mark L3 h32 Q3 (decide (o = 1))) (fun _ h4 z => ?_))))
    obtain ⟨Q4, F4⟩ := z
    have F4 : Fr drR h3 h4 := F4.wk (fun a x => x)
    have C4 := C3.dr F4
    have L4 := C4.1
    rw [← hpp] at Q4
    exact Tr.ck (Lo_1 L4) (Tr.gp (Lp_1_7 L4) (Tr.bd (Tr.imp (X9_store C4 hu h32 (by decide) (by decide) Q4 P3 hlen) (fun v h2 q => CP.dr (((F1.tr F2).tr F3).tr F4) q)) (fun v h2 q => Tr.ret q)))
  refine Tr.ck (Lo_1 L2) (Tr.gp (Lp_1_7 L2) ?_)
  rcases (by omega : o = 0 ∨ o = 1) with rfl | rfl
  · exact Tr.pos rfl (go _ rfl)
  · exact Tr.neg (by decide) (go _ rfl)
theorem X9_modify (C : CI h G) (o x z : Int32) : Tr (f_X9_modify 1 o x z h) (CP h (aModify G o x z)) := by
  unfold aModify
  refine X9_ob o (fun e => ?_) (fun o ho e e2 => ?_)
  · rw [e]; exact X9_fl C (by decide) (by decide)
  rw [e2, e]
  refine X9_os x (fun e => ?_) (fun s hs e e2 => ?_)
  · rw [e]; exact X9_fl C (by decide) (by decide)
  rw [e2, e]
  refine X9_os z (fun e => ?_) (fun u hu e e2 => ?_)
  · rw [e]; exact X9_fl C (by decide) (by decide)
  rw [e2, e]
  dsimp only
  have L := C.1
  refine Tr.ck (Lo_1 L) (Tr.gp (Lp_1_2 L) (Tr.ca (La_3 L hs) ?_))
  rw [nI_clamp (by omega)]
  refine Tr.gp (Lp_3 L hs) (Tr.ck (Lso_35 L hs) (Tr.be (X7_policy L hs) ?_))
  rcases (by omega : o = 0 ∨ o = 1) with rfl | rfl
  · rw [show ∀ a b : Int32 × St, (if 0 = 1 ∧ prd (G.2.2.1 s) = false then a else b) = b from fun a b => if_neg (fun z => absurd z.1 (by decide))]
    exact Tr.neg (by decide) (Tr.pos rfl (X9_md71 C hs hu (by decide) (fun z => absurd z (by decide))))
  · refine Tr.pos rfl (Tr.neg (by decide) (Tr.ck (Lso_36 L hs) (Tr.be (X4_givesPredicate L (PA_s hs) (C.slot hs).1) ?_)))
    cases hp : prd (G.2.2.1 s) with
    | false =>
      rw [show ∀ a b : Int32 × St, (if 1 = 1 ∧ false = false then a else b) = a from fun a b => if_pos ⟨rfl, rfl⟩]
      exact Tr.pos rfl (X9_fl (e := 1) (f := fun v => v) C (by decide) (by decide))
    | true =>
      rw [show ∀ a b : Int32 × St, (if 1 = 1 ∧ true = false then a else b) = b from fun a b => if_neg (fun z => absurd z.2 (by decide))]
      exact Tr.neg (by decide) (X9_md71 C hs hu (by decide) (fun _ => hp))
end CLS2
