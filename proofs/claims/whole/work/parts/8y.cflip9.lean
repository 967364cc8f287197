/-! flipped (class) -/
theorem flK_pos {A : zAb} {p : Nat → Bool} {j : Nat} {b : Int} : ∀ (r k : Nat) (x : zFl4), x ∈ flK A p j b r k → 0 < mvN A x.2.2.1 x.1 x.2.1 x.2.2.2
  | 0, _, x, h => by unfold flK at h; cases h
  | r + 1, k, x, h => by
    unfold flK at h
    rw [List.mem_append] at h
    rcases h with h | h
    · split at h
      · next q => rw [List.mem_singleton] at h; subst h; exact q
      · cases h
    · exact flK_pos r (k + 1) x h
theorem flS_pos {A : zAb} {g j : Nat} {b : Int} : ∀ (r t : Nat) (w : Nat → Bool) (x : zFl4), x ∈ flS A g j b r t w → 0 < mvN A x.2.2.1 x.1 x.2.1 x.2.2.2
  | 0, _, _, x, h => by unfold flS at h; cases h
  | r + 1, t, w, x, h => by
    unfold flS at h
    split at h
    · rw [List.mem_append] at h
      rcases h with h | h
      · split at h
        · exact flK_pos _ _ x h
        · cases h
      · exact flS_pos r (t + 1) _ x h
    · exact flS_pos r (t + 1) w x h
theorem fl1_pos {A : zAb} {g : Nat} : ∀ (r j : Nat) (x : zFl4), x ∈ fl1 A g r j → 0 < mvN A x.2.2.1 x.1 x.2.1 x.2.2.2
  | 0, _, x, h => by unfold fl1 at h; cases h
  | r + 1, j, x, h => by
    unfold fl1 at h
    rw [List.mem_append] at h
    rcases h with h | h
    · split at h
      · exact flS_pos _ _ _ x h
      · cases h
    · exact fl1_pos r (j + 1) x h
theorem fl2_pos {A : zAb} {g j : Nat} : ∀ (r b : Nat) (x : zFl4), x ∈ fl2 A g j r b → 0 < mvN A x.2.2.1 x.1 x.2.1 x.2.2.2
  | 0, _, x, h => by unfold fl2 at h; cases h
  | r + 1, b, x, h => by
    unfold fl2 at h
    rw [List.mem_append] at h
    rcases h with h | h
    · split at h
      · exact flS_pos _ _ _ x h
      · cases h
    · exact fl2_pos r (b + 1) x h
theorem fl3_pos {A : zAb} {g : Nat} : ∀ (r j : Nat) (x : zFl4), x ∈ fl3 A g r j → 0 < mvN A x.2.2.1 x.1 x.2.1 x.2.2.2
  | 0, _, x, h => by unfold fl3 at h; cases h
  | r + 1, j, x, h => by
    unfold fl3 at h
    rw [List.mem_append] at h
    rcases h with h | h
    · exact fl2_pos _ _ x h
    · exact fl3_pos r (j + 1) x h
/-- what moves in a flip -/
theorem flP_mv {A : zAb} {g : Nat} {x : zFl4} (h : x ∈ flP A g) : mvN A x.2.2.1 x.1 x.2.1 x.2.2.2 = mvC A x.2.2.1 x.1 x.2.2.2 (aN A) := by
  have hp : 0 < mvN A x.2.2.1 x.1 x.2.1 x.2.2.2 := by
    unfold flP at h
    rw [List.mem_append] at h
    exact h.elim (fl1_pos _ _ x) (fl3_pos _ _ x)
  unfold mvN at hp ⊢
  split at hp
  · next q => rw [if_pos q]
  · exact absurd hp (Nat.lt_irrefl 0)
