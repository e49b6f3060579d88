/- 76.ref.lean.txt -/
theorem no_m1 {k : Nat} (hk : k < 2 ^ 31) : ¬ nI k = (-1 : Int32) := fun z => nI_pos (n := k) (by omega) (by rw [z]; decide)
section REF
variable {h : Hp} {G : St}
end REF

/- 77.ref.lean.txt -/
/-! THE REFERENCE: the call printed -/
section REF
variable {h : Hp} {G : St}
end REF
theorem CI.fr {h h1 : Hp} {G : St} {A : Nat → Prop} (C : CI h G) (F : Fr A h h1) (hA : ∀ a, a ≤ 122 → a ≠ 3 → ¬ A a) : CI h1 G := by
  obtain ⟨c1, c2, c3, c4, c5, c6, c7⟩ := C
  exact ⟨F.lay c1, by rw [F.I (hA 1 (by decide) (by decide))]; exact c2, c3, by rw [F.I (hA 2 (by decide) (by decide))]; exact c4, by rw [F.I (hA 22 (by decide) (by decide))]; exact c5, fun s hs => (c6 s hs).fr F (fun a x y => hA a (by unfold slR at x; omega) (by unfold slR at x; omega)), c7.fr F (fun a x => hA a (by unfold hiR at x; omega) (by unfold hiR at x; omega))⟩
/- 79.ref.lean.txt -/
theorem tsk_v (f : Nat) (b : Nat → Nat) (g : Nat) : ∀ v, v < 4 → (tsk f b g).2.getD v 0 = b (4 * g + v) := fun v hv => by
  rcases (by omega : v = 0 ∨ v = 1 ∨ v = 2 ∨ v = 3) with rfl | rfl | rfl | rfl <;> rfl
section REF
variable {h : Hp} {T : List TE} {f g : Nat} {b : Nat → Nat}
end REF

/- 83.ref.lean.txt -/
/-! THE REFERENCE: drawing a slot -/
/-- the nodes of a drawing -/
noncomputable def dIds (o : Nat) (R : Nat → Int64) (D : List (Int64 × Int64)) (T : List TE) : List Nat := (((List.range 64).map (dB3 R D) ++ (List.range 16).map (dB2 o R D T)) ++ (List.range 4).map (dB1 o R D T)) ++ (List.range 1).map (fun k => nid o 0 (dB1 o R D T) (dT0 o R D T) k)
section REF
variable {h : Hp} {G : St}
end REF

/- 85.mv.lean.txt -/
/-! THE IDS OF THE TWO SIDES: test k is o + k here, 128 + k there -/
def mvI (o i : Nat) : Nat := if i < o then i else 128 + (i - o)
def mvE (o : Nat) (e : TE) : TE := (e.1, e.2.map (mvI o))
theorem mvI_inj {o : Nat} (ho : o ≤ 128) {i j : Nat} (h : mvI o i = mvI o j) : i = j := by
  unfold mvI at h
  by_cases c : i < o
  · by_cases d : j < o
    · rw [if_pos c, if_pos d] at h; exact h
    · rw [if_pos c, if_neg d] at h; omega
  · by_cases d : j < o
    · rw [if_neg c, if_pos d] at h; omega
    · rw [if_neg c, if_neg d] at h; omega
theorem map_inj {α β : Type} {g : α → β} (hg : ∀ x y, g x = g y → x = y) : ∀ {L M : List α}, L.map g = M.map g → L = M := by
  intro L
  induction L with
  | nil => intro M h; cases M with
    | nil => rfl
    | cons y t => cases h
  | cons x t ih => intro M h; cases M with
    | nil => cases h
    | cons y u =>
      injection h with h1 h2
      rw [hg _ _ h1, ih h2]
theorem mvE_inj {o : Nat} (ho : o ≤ 128) (x y : TE) (h : mvE o x = mvE o y) : x = y := by
  have h1 := congrArg Prod.fst h
  have h2 := congrArg Prod.snd h
  exact Prod.ext h1 (map_inj (fun a b => mvI_inj ho) h2)
section MV
theorem mem_mv {α β : Type} [DecidableEq α] [DecidableEq β] {g : α → β} (hg : ∀ x y, g x = g y → x = y) {L : List α} {x : α} : g x ∈ L.map g ↔ x ∈ L := by
  constructor
  · intro h
    obtain ⟨y, hy, e⟩ := List.mem_map.mp h
    rw [← hg _ _ e]; exact hy
  · exact List.mem_map_of_mem
theorem insA_mv {α β : Type} [DecidableEq α] [DecidableEq β] {g : α → β} (hg : ∀ x y, g x = g y → x = y) {L : List α} {x : α} : insA (L.map g) (g x) = (insA L x).map g := by
  unfold insA
  by_cases c : x ∈ L
  · rw [if_pos c, if_pos ((mem_mv hg).mpr c)]
  · rw [if_neg c, if_neg (fun z => c ((mem_mv hg).mp z)), List.map_append]; rfl
theorem ixo_mv {α β : Type} [DecidableEq α] [DecidableEq β] {g : α → β} (hg : ∀ x y, g x = g y → x = y) {L : List α} {x : α} : ixo (L.map g) (g x) = ixo L x := by
  by_cases c : x ∈ L
  · refine ixo_eq ?_ (fun j hj => ?_)
    · rw [List.getElem?_map, ixo_get c]; rfl
    · rw [List.getElem?_map]
      intro z
      have := ixo_no hj
      cases h : L[j]? with
      | none => rw [h] at z; cases z
      | some y =>
        rw [h] at z
        have z : g y = g x := Option.some.inj z
        exact this (by rw [h, hg _ _ z])
  · rw [ixo_out c, ixo_out (fun z => c ((mem_mv hg).mp z)), List.length_map]
end MV
section MV2
variable {o f : Nat} {b : Nat → Nat} {T : List TE}
theorem alq_mv (ho : o ≤ 128) (k : Nat) : alq (fun j => mvI o (b j)) k = alq b k := by
  have e : ∀ x y : Nat, (mvI o x == mvI o y) = (x == y) := fun x y => by
    by_cases c : x = y
    · subst c; rw [beq_self_eq_true, beq_self_eq_true]
    · rw [beq_false_of_ne c, beq_false_of_ne (fun z => c (mvI_inj ho z))]
  unfold alq
  rw [e, e, e]
theorem tsk_mv (k : Nat) : tsk f (fun j => mvI o (b j)) k = mvE o (tsk f b k) := rfl
theorem tss_mv (ho : o ≤ 128) : ∀ n, tss f (fun j => mvI o (b j)) (T.map (mvE o)) n = (tss f b T n).map (mvE o) := by
  intro n
  induction n with
  | zero => rfl
  | succ n ih =>
    rw [tss_s, tss_s, ih, alq_mv ho, tsk_mv, insA_mv (mvE_inj ho)]
    by_cases c : alq b n = true
    · rw [if_pos c, if_pos c]
    · rw [if_neg c, if_neg c]
theorem nid_mv (ho : o ≤ 128) (k : Nat) : nid 128 f (fun j => mvI o (b j)) (T.map (mvE o)) k = mvI o (nid o f b T k) := by
  unfold nid
  rw [alq_mv ho, tsk_mv, ixo_mv (mvE_inj ho)]
  by_cases c : alq b k = true
  · rw [if_pos c, if_pos c]
  · rw [if_neg c, if_neg c]
    unfold mvI
    rw [if_neg (by omega)]
    omega
end MV2
section MV3
variable {R : Nat → Int64}
theorem cO_le (R : Nat → Int64) : cO R ≤ 128 := by have := dL_len R; unfold cO; omega
theorem mv_dB3 {p : Nat} (hp : p < 64) : mvI (cO R) (dB3 R [] p) = dB3 R [] p := if_pos (dB3_lt R hp)
theorem mv_dT2 : (dT2 R [] []).map (mvE (cO R)) = dT2 R [] [] := by
  have e := tss_mv (o := cO R) (f := 2) (b := dB3 R []) (T := []) (cO_le R) 16
  have c : tss 2 (fun j => mvI (cO R) (dB3 R [] j)) [] 16 = tss 2 (dB3 R []) [] 16 := tss_congr (n := 64) (fun j hj => mv_dB3 hj) 16 (by decide)
  exact e.symm.trans c
theorem mv_dB2 {k : Nat} (hk : k < 16) : dB2 128 R [] [] k = mvI (cO R) (dB2 (cO R) R [] [] k) := by
  have e := nid_mv (o := cO R) (f := 2) (b := dB3 R []) (T := dT2 R [] []) (cO_le R) k
  rw [mv_dT2] at e
  have c : nid 128 2 (fun j => mvI (cO R) (dB3 R [] j)) (dT2 R [] []) k = nid 128 2 (dB3 R []) (dT2 R [] []) k := nid_congr (n := 64) (fun j hj => mv_dB3 hj) (by omega)
  exact c.symm.trans e
theorem mv_dT1 : dT1 128 R [] [] = (dT1 (cO R) R [] []).map (mvE (cO R)) := by
  have e := tss_mv (o := cO R) (f := 1) (b := dB2 (cO R) R [] []) (T := dT2 R [] []) (cO_le R) 4
  rw [mv_dT2] at e
  have c : tss 1 (fun j => mvI (cO R) (dB2 (cO R) R [] [] j)) (dT2 R [] []) 4 = tss 1 (dB2 128 R [] []) (dT2 R [] []) 4 := tss_congr (n := 16) (fun j hj => (mv_dB2 hj).symm) 4 (by decide)
  exact c.symm.trans e
theorem mv_dB1 {k : Nat} (hk : k < 4) : dB1 128 R [] [] k = mvI (cO R) (dB1 (cO R) R [] [] k) := by
  have e := nid_mv (o := cO R) (f := 1) (b := dB2 (cO R) R [] []) (T := dT1 (cO R) R [] []) (cO_le R) k
  rw [← mv_dT1] at e
  have c : nid 128 1 (fun j => mvI (cO R) (dB2 (cO R) R [] [] j)) (dT1 128 R [] []) k = nid 128 1 (dB2 128 R [] []) (dT1 128 R [] []) k := nid_congr (n := 16) (fun j hj => (mv_dB2 hj).symm) (by omega)
  exact c.symm.trans e
end MV3
section REF
variable {h : Hp} {G : St}
end REF

