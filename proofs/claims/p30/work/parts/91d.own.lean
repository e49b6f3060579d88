/-! each node of a slot's own diagram is drawn -/
theorem lvs_cov {α : Type} [DecidableEq α] (f : Nat → α) : ∀ n i, i < (lvs f [] n).length → ∃ p, p < n ∧ ixo (lvs f [] n) (f p) = i := by
  intro n
  induction n with
  | zero => intro i h; exact absurd h (Nat.not_lt_zero _)
  | succ n ih =>
    intro i h
    have e : lvs f [] (n + 1) = insA (lvs f [] n) (f n) := rfl
    rw [e] at h ⊢
    unfold insA at h ⊢
    by_cases c : f n ∈ lvs f [] n
    · rw [if_pos c] at h ⊢
      obtain ⟨p, hp, ep⟩ := ih i h
      exact ⟨p, by omega, ep⟩
    · rw [if_neg c] at h ⊢
      rw [List.length_append, List.length_singleton] at h
      by_cases ei : i = (lvs f [] n).length
      · exact ⟨n, by omega, by rw [ixo_snoc c]; exact ei.symm⟩
      · obtain ⟨p, hp, ep⟩ := ih i (by omega)
        exact ⟨p, by omega, by rw [ixo_app (lvs_mem f [] hp)]; exact ep⟩
theorem tss_cov (f : Nat) (b : Nat → Nat) (T : List TE) : ∀ n k, k < (tss f b T n).length → k < T.length ∨ ∃ g, g < n ∧ alq b g = false ∧ ixo (tss f b T n) (tsk f b g) = k := by
  intro n
  induction n with
  | zero => intro k h; exact Or.inl h
  | succ n ih =>
    intro k h
    rw [tss_s] at h ⊢
    cases ca : alq b n with
    | true =>
      rw [ca, if_pos rfl] at h
      rw [if_pos rfl]
      rcases ih k h with z | ⟨g, g1, g2, g3⟩
      · exact Or.inl z
      · exact Or.inr ⟨g, by omega, g2, g3⟩
    | false =>
      rw [ca, if_neg (by decide)] at h
      rw [if_neg (by decide)]
      unfold insA at h ⊢
      by_cases c : tsk f b n ∈ tss f b T n
      · rw [if_pos c] at h ⊢
        rcases ih k h with z | ⟨g, g1, g2, g3⟩
        · exact Or.inl z
        · exact Or.inr ⟨g, by omega, g2, g3⟩
      · rw [if_neg c] at h ⊢
        rw [List.length_append, List.length_singleton] at h
        by_cases ei : k = (tss f b T n).length
        · exact Or.inr ⟨n, by omega, ca, by rw [ixo_snoc c]; exact ei.symm⟩
        · rcases ih k (by omega) with z | ⟨g, g1, g2, g3⟩
          · exact Or.inl z
          · exact Or.inr ⟨g, by omega, g2, by rw [ixo_app (tss_mem f b T g1 g2)]; exact g3⟩
theorem nid_cov {o f : Nat} {b : Nat → Nat} {T : List TE} {g k : Nat} (h : alq b g = false) (e : ixo T (tsk f b g) = k) : o + k = nid o f b T g := by
  unfold nid
  rw [h, if_neg (by decide), e]
section OWN
variable {R : Nat → Int64}
theorem LY_cov {i : Nat} (h : i < cO R + (cT R).length) : ∃ F, LY (cO R) R [] [] i F := by
  by_cases c : i < cO R
  · have c1 : i < (dL R []).length := c
    unfold dL at c1
    obtain ⟨p, hp, e⟩ := lvs_cov (acts R) 64 i c1
    refine ⟨_, Or.inl ⟨p, hp, ?_, rfl⟩⟩
    unfold dB3 dL
    exact e.symm
  · obtain ⟨k, rfl⟩ : ∃ k, i = cO R + k := ⟨i - cO R, by omega⟩
    have hk : k < (tss 0 (dB1 (cO R) R [] []) (dT1 (cO R) R [] []) 1).length := by
      have : k < (cT R).length := by omega
      exact this
    rcases tss_cov _ _ _ _ _ hk with z | ⟨g, g1, g2, g3⟩
    · rcases tss_cov 1 (dB2 (cO R) R [] []) (dT2 R [] []) 4 k z with z | ⟨g, g1, g2, g3⟩
      · rcases tss_cov 2 (dB3 R []) [] 16 k z with z | ⟨g, g1, g2, g3⟩
        · exact absurd z (Nat.not_lt_zero _)
        · exact ⟨_, Or.inr (Or.inl ⟨g, g1, nid_cov g2 g3, rfl⟩)⟩
      · exact ⟨_, Or.inr (Or.inr (Or.inl ⟨g, g1, nid_cov g2 g3, rfl⟩))⟩
    · exact ⟨_, Or.inr (Or.inr (Or.inr ⟨g, g1, nid_cov g2 g3, rfl⟩))⟩
end OWN

