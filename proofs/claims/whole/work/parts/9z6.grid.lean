/-! the grid is made: which cells lie how near, on which side -/
abbrev gdx (c o : Nat) : Int32 := (nI o &&& 7) - (nI c &&& 7)
abbrev gdy (c o : Nat) : Int32 := zishr (nI o) 3 - zishr (nI c) 3
abbrev gab (x : Int32) : Int32 := if 0 ≤ x then x else 0 - x
theorem gm1 : ∀ c, c < 64 → ∀ o, o < 64 → gdx c o * gdx c o + gdy c o * gdy c o = nI (zdist c o) ∧ zdist c o < 99 := by decide +kernel
theorem gm2 : ∀ c, c < 64 → ∀ o, o < 64 → zside c o 0 = (decide (¬ gdx c o = 0) && decide (¬ gab (gdx c o) < gab (gdy c o)) && decide (¬ gdx c o ≤ 0)) ∧ zside c o 2 = (decide (¬ gdx c o = 0) && decide (¬ gab (gdx c o) < gab (gdy c o)) && decide (gdx c o ≤ 0)) := by decide +kernel
theorem gm3 : ∀ c, c < 64 → ∀ o, o < 64 → zside c o 1 = (decide (¬ gdy c o = 0) && decide (¬ gab (gdy c o) < gab (gdx c o)) && decide (¬ gdy c o ≤ 0)) ∧ zside c o 3 = (decide (¬ gdy c o = 0) && decide (¬ gab (gdy c o) < gab (gdx c o)) && decide (gdy c o ≤ 0)) := by decide +kernel
/-- longs change in some places of some rows at c: o is put in; nothing else does -/
def zLx (P : Nat → Nat → Prop) (c o : Nat) (σ τ : zSt) : Prop := (∀ a b e, zgi τ a b e = zgi σ a b e) ∧ (∀ a b e, zgr τ a b e = zgr σ a b e) ∧ τ.2.2.2 = σ.2.2.2 ∧ ∀ a b e, (P a b ∧ e = c → zgl τ a b e = (zgl σ a b e ||| zlshl 1 (nI o))) ∧ (¬ (P a b ∧ e = c) → zgl τ a b e = zgl σ a b e)
section zGd
variable {d kc ks : Nat} {σ τ υ : zSt} {Q : Option zV → zSt → Prop} {c o : Nat} {P P' : Nat → Nat → Prop}
theorem zLx.rf (h : ∀ a b, ¬ P a b) : zLx P c o σ σ := ⟨fun _ _ _ => rfl, fun _ _ _ => rfl, rfl, fun a b e => ⟨fun q => absurd q.1 (h a b), fun _ => rfl⟩⟩
theorem zLx.one {a0 b0 : Nat} (h : ∀ a b, P a b ↔ a = a0 ∧ b = b0) : zLx P c o σ (zsl σ a0 b0 c (zgl σ a0 b0 c ||| zlshl 1 (nI o))) := ⟨fun _ _ _ => rfl, fun _ _ _ => rfl, rfl, fun a b e => ⟨fun q => by
  obtain ⟨e1, e2⟩ := (h a b).mp q.1
  rw [zgl_sl, if_pos ⟨e1, e2, q.2⟩, e1, e2, q.2], fun q => by rw [zgl_sl, if_neg (fun w => q ⟨(h a b).mpr ⟨w.1, w.2.1⟩, w.2.2⟩)]⟩⟩
theorem zLx.tr (h1 : zLx P c o σ τ) (h2 : zLx P' c o τ υ) (hd : ∀ a b, P a b → ¬ P' a b) : zLx (fun a b => P a b ∨ P' a b) c o σ υ := by
  obtain ⟨a1, a2, a3, a4⟩ := h1
  obtain ⟨b1, b2, b3, b4⟩ := h2
  refine ⟨fun a b e => (b1 a b e).trans (a1 a b e), fun a b e => (b2 a b e).trans (a2 a b e), b3.trans a3, fun a b e => ⟨fun q => ?_, fun q => ?_⟩⟩
  · obtain ⟨q1 | q1, q2⟩ := q
    · rw [(b4 a b e).2 (fun w => hd a b q1 w.1), (a4 a b e).1 ⟨q1, q2⟩]
    · rw [(b4 a b e).1 ⟨q1, q2⟩, (a4 a b e).2 (fun w => hd a b w.1 q1)]
  · rw [(b4 a b e).2 (fun w => q ⟨Or.inr w.1, w.2⟩), (a4 a b e).2 (fun w => q ⟨Or.inl w.1, w.2⟩)]
theorem L_X3_mark42 (hc : c < 64) (ho : o < 64) (h81 : zgr σ 8 0 1 = (33, 0)) (h33 : ∀ e, e < 4 → zgr σ 33 0 e = (34, e)) (hQ : ∀ τ, zLx (fun a b => a = 34 ∧ (b = 0 ∨ b = 2) ∧ zside c o b = true) c o σ τ → zE false (d + 2) kc ks M_X3_mark 81 [some (.inr (.inr (8, 0))), some (.inl (nI c)), some (.inl (nI o)), some (.inl (gdx c o)), some (.inl (gdy c o))] [] τ Q) : zE false (d + 2) kc ks M_X3_mark 42 [some (.inr (.inr (8, 0))), some (.inl (nI c)), some (.inl (nI o)), some (.inl (gdx c o)), some (.inl (gdy c o))] [] σ Q := by
  obtain ⟨s0, s2⟩ := gm2 c hc o ho
  have cc : (nI c).toNatClampNeg = c := nI_clamp (by omega)
  have ci : vp_in (nI c) 64 := nI_in (by omega) (by omega)
  refine T_X3_markN_42 ⟨fun h => hQ σ (zLx.rf (fun a b q => ?_)), fun h => ⟨fun h2 => hQ σ (zLx.rf (fun a b q => ?_)), fun h2 => ⟨h81, fun x hx => ?_⟩⟩⟩
  · obtain ⟨-, q1 | q1, q2⟩ := q
    · rw [q1, s0, decide_eq_false (by simp [h])] at q2; simp at q2
    · rw [q1, s2, decide_eq_false (by simp [h])] at q2; simp at q2
  · obtain ⟨-, q1 | q1, q2⟩ := q
    · rw [q1, s0, decide_eq_false (p := ¬ gab (gdx c o) < gab (gdy c o)) (fun w => w h2)] at q2; simp at q2
    · rw [q1, s2, decide_eq_false (p := ¬ gab (gdx c o) < gab (gdy c o)) (fun w => w h2)] at q2; simp at q2
  · rw [decide_eq_true (p := ¬ gdx c o = 0) h, decide_eq_true (p := ¬ gab (gdx c o) < gab (gdy c o)) h2, Bool.true_and, Bool.true_and] at s0 s2
    rw [cc]
    by_cases hl : gdx c o ≤ 0
    · rw [if_pos hl] at hx
      subst hx
      refine ⟨⟨nI_in (c := 2) (by omega) (by omega), h33 2 (by omega)⟩, ci, ci, hQ _ (zLx.one (a0 := 34) (b0 := 2) (fun a b => ⟨fun q => ⟨q.1, ?_⟩, fun q => ⟨q.1, Or.inr q.2, ?_⟩⟩))⟩
      · rcases q.2.1 with e | e
        · have := q.2.2
          rw [e, s0, decide_eq_false (fun w => w hl)] at this
          cases this
        · exact e
      · rw [q.2, s2]; exact decide_eq_true hl
    · rw [if_neg hl] at hx
      subst hx
      refine ⟨⟨nI_in (c := 0) (by omega) (by omega), h33 0 (by omega)⟩, ci, ci, hQ _ (zLx.one (a0 := 34) (b0 := 0) (fun a b => ⟨fun q => ⟨q.1, ?_⟩, fun q => ⟨q.1, Or.inl q.2, ?_⟩⟩))⟩
      · rcases q.2.1 with e | e
        · exact e
        · have := q.2.2
          rw [e, s2, decide_eq_false hl] at this
          cases this
      · rw [q.2, s0]; exact decide_eq_true hl
theorem L_X3_mark81 (hc : c < 64) (ho : o < 64) (h81 : zgr σ 8 0 1 = (33, 0)) (h33 : ∀ e, e < 4 → zgr σ 33 0 e = (34, e)) (hQ : ∀ τ, zLx (fun a b => a = 34 ∧ (b = 1 ∨ b = 3) ∧ zside c o b = true) c o σ τ → Q none τ) : zE false (d + 2) kc ks M_X3_mark 81 [some (.inr (.inr (8, 0))), some (.inl (nI c)), some (.inl (nI o)), some (.inl (gdx c o)), some (.inl (gdy c o))] [] σ Q := by
  obtain ⟨s0, s2⟩ := gm3 c hc o ho
  have cc : (nI c).toNatClampNeg = c := nI_clamp (by omega)
  have ci : vp_in (nI c) 64 := nI_in (by omega) (by omega)
  refine T_X3_markN_81 ⟨fun h => hQ σ (zLx.rf (fun a b q => ?_)), fun h => ⟨fun h2 => hQ σ (zLx.rf (fun a b q => ?_)), fun h2 => ⟨h81, fun x hx => ?_⟩⟩⟩
  · obtain ⟨-, q1 | q1, q2⟩ := q
    · rw [q1, s0, decide_eq_false (by simp [h])] at q2; simp at q2
    · rw [q1, s2, decide_eq_false (by simp [h])] at q2; simp at q2
  · obtain ⟨-, q1 | q1, q2⟩ := q
    · rw [q1, s0, decide_eq_false (p := ¬ gab (gdy c o) < gab (gdx c o)) (fun w => w h2)] at q2; simp at q2
    · rw [q1, s2, decide_eq_false (p := ¬ gab (gdy c o) < gab (gdx c o)) (fun w => w h2)] at q2; simp at q2
  · rw [decide_eq_true (p := ¬ gdy c o = 0) h, decide_eq_true (p := ¬ gab (gdy c o) < gab (gdx c o)) h2, Bool.true_and, Bool.true_and] at s0 s2
    rw [cc]
    by_cases hl : gdy c o ≤ 0
    · rw [if_pos hl] at hx
      subst hx
      refine ⟨⟨nI_in (c := 3) (by omega) (by omega), h33 3 (by omega)⟩, ci, ci, hQ _ (zLx.one (a0 := 34) (b0 := 3) (fun a b => ⟨fun q => ⟨q.1, ?_⟩, fun q => ⟨q.1, Or.inr q.2, ?_⟩⟩))⟩
      · rcases q.2.1 with e | e
        · have := q.2.2
          rw [e, s0, decide_eq_false (fun w => w hl)] at this
          cases this
        · exact e
      · rw [q.2, s2]; exact decide_eq_true hl
    · rw [if_neg hl] at hx
      subst hx
      refine ⟨⟨nI_in (c := 1) (by omega) (by omega), h33 1 (by omega)⟩, ci, ci, hQ _ (zLx.one (a0 := 34) (b0 := 1) (fun a b => ⟨fun q => ⟨q.1, ?_⟩, fun q => ⟨q.1, Or.inl q.2, ?_⟩⟩))⟩
      · rcases q.2.1 with e | e
        · exact e
        · have := q.2.2
          rw [e, s2, decide_eq_false hl] at this
          cases this
      · rw [q.2, s0]; exact decide_eq_true hl
theorem S_X3_markN {K : zSt → Prop} (hc : c < 64) (ho : o < 64) (h80 : zgr σ 8 0 0 = (31, 0)) (h81 : zgr σ 8 0 1 = (33, 0)) (h31 : ∀ e, e < 99 → zgr σ 31 0 e = (32, e)) (h33 : ∀ e, e < 4 → zgr σ 33 0 e = (34, e)) (hK : ∀ τ, zLx (fun a b => (a = 32 ∧ b = zdist c o) ∨ (a = 34 ∧ b < 4 ∧ zside c o b = true)) c o σ τ → K τ) : zCv false (d + 2) 0 0 M_X3_mark [.inr (.inr (8, 0)), .inl (nI c), .inl (nI o)] σ K := by
  obtain ⟨g1, g2⟩ := gm1 c hc o ho
  have cc : (nI c).toNatClampNeg = c := nI_clamp (by omega)
  have ci : vp_in (nI c) 64 := nI_in (by omega) (by omega)
  refine zC_intro pl_X3 (Nat.le_of_ble_eq_true rfl) (T_X3_markN_0 (T_X3_markN_19 ?_))
  show _ ∧ ((vp_in (gdx c o * gdx c o + gdy c o * gdy c o) 99 ∧ zgr σ 31 0 (gdx c o * gdx c o + gdy c o * gdy c o).toNatClampNeg = (32, (gdx c o * gdx c o + gdy c o * gdy c o).toNatClampNeg)) ∧ _)
  rw [g1, nI_clamp (show zdist c o < 2 ^ 31 by omega), cc]
  refine ⟨h80, ⟨nI_in (by omega) (by omega), h31 _ g2⟩, ci, ci, ?_⟩
  have a1 : zLx (fun a b => a = 32 ∧ b = zdist c o) c o σ (zsl σ 32 (zdist c o) c (zgl σ 32 (zdist c o) c ||| zlshl 1 (nI o))) := zLx.one (fun a b => Iff.rfl)
  refine L_X3_mark42 hc ho (by rw [a1.2.1]; exact h81) (fun e he => by rw [a1.2.1]; exact h33 e he) (fun τ a2 => ?_)
  refine L_X3_mark81 hc ho (by rw [a2.2.1, a1.2.1]; exact h81) (fun e he => by rw [a2.2.1, a1.2.1]; exact h33 e he) (fun υ a3 => ⟨rfl, hK υ ?_⟩)
  have a4 := (a1.tr a2 (fun a b q w => by omega)).tr a3 (fun a b q w => by omega)
  refine ⟨a4.1, a4.2.1, a4.2.2.1, fun a b e => ⟨fun q => (a4.2.2.2 a b e).1 ⟨?_, q.2⟩, fun q => (a4.2.2.2 a b e).2 (fun w => q ⟨?_, w.2⟩)⟩⟩
  · rcases q.1 with q1 | ⟨q1, q2, q3⟩
    · exact Or.inl (Or.inl q1)
    · rcases (show (b = 0 ∨ b = 2) ∨ (b = 1 ∨ b = 3) by omega) with e1 | e1
      · exact Or.inl (Or.inr ⟨q1, e1, q3⟩)
      · exact Or.inr ⟨q1, e1, q3⟩
  · rcases w.1 with (q1 | q1) | q1
    · exact Or.inl q1
    · exact Or.inr ⟨q1.1, by omega, q1.2.2⟩
    · exact Or.inr ⟨q1.1, by omega, q1.2.2⟩
end zGd
