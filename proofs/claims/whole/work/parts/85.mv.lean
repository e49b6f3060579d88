/-! THE IDS OF THE TWO SIDES: test k is o + k here, 128 + k there -/
def mvI (o i : Nat) : Nat := if i < o then i else 128 + (i - o)
def mvE (o : Nat) (e : TE) : TE := (e.1, e.2.map (mvI o))
theorem mvI_inj {o : Nat} (ho : o ≤ 128) {i j : Nat} (h : mvI o i = mvI o j) : i = j := by
  unfold mvI at h
  by_cases c : i < o
  · by_cases d : j < o
    · rw [if_pos c, if_pos d] at h; exact h
    · rw [if_pos c, if_neg d] at h; omega
  · by_cases d : j < o
    · rw [if_neg c, if_pos d] at h; omega
    · rw [if_neg c, if_neg d] at h; omega
theorem map_inj {α β : Type} {g : α → β} (hg : ∀ x y, g x = g y → x = y) : ∀ {L M : List α}, L.map g = M.map g → L = M := by
  intro L
  induction L with
  | nil => intro M h; cases M with
    | nil => rfl
    | cons y t => cases h
  | cons x t ih => intro M h; cases M with
    | nil => cases h
    | cons y u =>
      injection h with h1 h2
      rw [hg _ _ h1, ih h2]
theorem mvE_inj {o : Nat} (ho : o ≤ 128) (x y : TE) (h : mvE o x = mvE o y) : x = y := by
  have h1 := congrArg Prod.fst h
  have h2 := congrArg Prod.snd h
  exact Prod.ext h1 (map_inj (fun a b => mvI_inj ho) h2)
section MV
theorem mem_mv {α β : Type} [DecidableEq α] [DecidableEq β] {g : α → β} (hg : ∀ x y, g x = g y → x = y) {L : List α} {x : α} : g x ∈ L.map g ↔ x ∈ L := by
  constructor
  · intro h
    obtain ⟨y, hy, e⟩ := List.mem_map.mp h
    rw [← hg _ _ e]; exact hy
  · exact List.mem_map_of_mem
theorem insA_mv {α β : Type} [DecidableEq α] [DecidableEq β] {g : α → β} (hg : ∀ x y, g x = g y → x = y) {L : List α} {x : α} : insA (L.map g) (g x) = (insA L x).map g := by
  unfold insA
  by_cases c : x ∈ L
  · rw [if_pos c, if_pos ((mem_mv hg).mpr c)]
  · rw [if_neg c, if_neg (fun z => c ((mem_mv hg).mp z)), List.map_append]; rfl
theorem ixo_mv {α β : Type} [DecidableEq α] [DecidableEq β] {g : α → β} (hg : ∀ x y, g x = g y → x = y) {L : List α} {x : α} : ixo (L.map g) (g x) = ixo L x := by
  by_cases c : x ∈ L
  · refine ixo_eq ?_ (fun j hj => ?_)
    · rw [List.getElem?_map, ixo_get c]; rfl
    · rw [List.getElem?_map]
      intro z
      have := ixo_no hj
      cases h : L[j]? with
      | none => rw [h] at z; cases z
      | some y =>
        rw [h] at z
        have z : g y = g x := Option.some.inj z
        exact this (by rw [h, hg _ _ z])
  · rw [ixo_out c, ixo_out (fun z => c ((mem_mv hg).mp z)), List.length_map]
end MV
section MV2
variable {o f : Nat} {b : Nat → Nat} {T : List TE}
theorem alq_mv (ho : o ≤ 128) (k : Nat) : alq (fun j => mvI o (b j)) k = alq b k := by
  have e : ∀ x y : Nat, (mvI o x == mvI o y) = (x == y) := fun x y => by
    by_cases c : x = y
    · subst c; rw [beq_self_eq_true, beq_self_eq_true]
    · rw [beq_false_of_ne c, beq_false_of_ne (fun z => c (mvI_inj ho z))]
  unfold alq
  rw [e, e, e]
theorem tsk_mv (k : Nat) : tsk f (fun j => mvI o (b j)) k = mvE o (tsk f b k) := rfl
theorem tss_mv (ho : o ≤ 128) : ∀ n, tss f (fun j => mvI o (b j)) (T.map (mvE o)) n = (tss f b T n).map (mvE o) := by
  intro n
  induction n with
  | zero => rfl
  | succ n ih =>
    rw [tss_s, tss_s, ih, alq_mv ho, tsk_mv, insA_mv (mvE_inj ho)]
    by_cases c : alq b n = true
    · rw [if_pos c, if_pos c]
    · rw [if_neg c, if_neg c]
theorem nid_mv (ho : o ≤ 128) (k : Nat) : nid 128 f (fun j => mvI o (b j)) (T.map (mvE o)) k = mvI o (nid o f b T k) := by
  unfold nid
  rw [alq_mv ho, tsk_mv, ixo_mv (mvE_inj ho)]
  by_cases c : alq b k = true
  · rw [if_pos c, if_pos c]
  · rw [if_neg c, if_neg c]
    unfold mvI
    rw [if_neg (by omega)]
    omega
end MV2
