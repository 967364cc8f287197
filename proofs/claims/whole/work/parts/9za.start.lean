/-! where the law begins its loop -/
theorem zct_lt {c j k : Nat} (hc : ¬ zkd c < 20) (h : (zct c j k).1 ≠ 0) : k < (zCo.getD c []).length := by
  rcases Nat.lt_or_ge k (zCo.getD c []).length with q | q
  · exact q
  · refine absurd ?_ h
    unfold zct
    simp only [if_neg hc]
    rw [List.getD_eq_getElem?_getD, List.getElem?_eq_none q]
    rfl
theorem zct_no {c j k : Nat} (h : ∀ e ∈ zCo.getD c [], e.1 = 0) : (zct c j k).1 = 0 := by
  have key : ∀ i, ((zCo.getD c []).getD i (0, 0)).1 = 0 := fun i => by
    rw [List.getD_eq_getElem?_getD]
    rcases Nat.lt_or_ge i (zCo.getD c []).length with q | q
    · rw [List.getElem?_eq_getElem q]
      exact h _ (List.getElem_mem q)
    · rw [List.getElem?_eq_none q]
      rfl
  unfold zct
  show (if zkd c < 20 then _ else _ : Nat × Nat).1 = 0
  split
  · exact key 0
  · exact key k
theorem zK_obj {τ : zSt} {c n : Nat} {L : List (Nat × (Nat × Nat))} (hc : ¬ zkd c < 20) (hl : (zCo.getD c []).length = n) (tb : ∀ k, k < n → (zct c 0 k).1 ≠ 0 → (k, zct c 0 k) ∈ L) (f : ∀ q ∈ L, zgr τ c 0 q.1 = q.2) (k : Nat) (h : (zct c 0 k).1 ≠ 0) : zgr τ c 0 k = zct c 0 k :=
  f _ (tb k (by rw [← hl]; exact zct_lt hc h) h)
section zSt0
variable {σ τ : zSt}
def zCld (σ τ : zSt) : Prop := zNC nc19 σ τ ∧ zOnly (fun a b e => a = 6 ∨ a = 7 ∨ (8 ≤ a ∧ a ≤ 15) ∨ a = 18 ∨ a = 22 ∨ (31 ≤ a ∧ a ≤ 52)) σ τ ∧ zRD zAst τ 0 ∧ zGr τ ∧ zForg τ ∧ zgl τ 9 0 3 = 0 ∧ zgi τ 14 0 0 = 0 ∧ zgi τ 6 0 14 = 0 ∧ zgi τ 6 0 15 = 0 ∧ (∀ k, k < 4 → zgi τ 15 k 0 = -9 ∧ zgi τ 15 k 1 = 0) ∧ ∀ c j k, 6 ≤ c → c ≤ 53 → j < zcn τ c → (zct c j k).1 ≠ 0 → (zkd c < 20 → k < zLn.getD c 0) → zgr τ c j k = zct c j k
theorem S_X11_init {d : Nat} {K : zSt → Prop} (hZ : zZ0 σ) (h6 : zcn σ 6 = 1) (h0 : ∀ c, 7 ≤ c → c ≤ 53 → zcn σ c = 0) (hK : ∀ τ, zZ0 τ → zCld σ τ → K τ) : zCv false (d + 5) 335 78329 M_X11_init [.inr (.inr (6, 0))] σ K := by
  refine L_X11_init_all hZ h6 h0 (fun τ z n o l e_rr7_0 e_rd1 e_g80 e_g81 e_g31 e_g33 e_gG e_g9_2 e_g9_0 e_g9_1 e_gw35 e_gj9_3 e_g10_2 e_g10_3 e_g10_10 e_g10_0 e_g10_1 e_gi10_5 e_gi10_7 e_g11_5 e_g11_9 e_g11_10 e_g11_11 e_g11_13 e_g11_15 e_g11_17 e_g11_18 e_g11_0 e_g11_1 e_g11_2 e_gw43 e_gw46 e_gi11_3 e_g12_2 e_g12_0 e_g12_1 e_g13_3 e_g13_0 e_g13_1 e_g13_2 e_gw51 e_gi13_4 e_gi14_0 e_gi6_13 e_gi6_14 e_gi6_15 e_rr7_1 e_g18_0 e_rr7_2 e_g18_1 e_g15_0 e_gi15_0_0 e_gi15_0_1 e_g22_0 e_g15_1 e_gi15_1_0 e_gi15_1_1 e_g22_1 e_g15_2 e_gi15_2_0 e_gi15_2_1 e_g22_2 e_g15_3 e_gi15_3_0 e_gi15_3_1 e_g22_3 => hK τ z ⟨n, o, e_rd1, e_gG, ⟨e_gi6_13, e_gi10_5, e_gi10_7, e_gi11_3, e_gi13_4⟩, e_gj9_3, e_gi14_0, e_gi6_14, e_gi6_15, fun k hk => ?_, fun c j k h1 h2 hj hz hk => ?_⟩)
  · rcases (show k = 0 ∨ k = 1 ∨ k = 2 ∨ k = 3 by omega) with rfl | rfl | rfl | rfl
    · exact ⟨e_gi15_0_0, e_gi15_0_1⟩
    · exact ⟨e_gi15_1_0, e_gi15_1_1⟩
    · exact ⟨e_gi15_2_0, e_gi15_2_1⟩
    · exact ⟨e_gi15_3_0, e_gi15_3_1⟩
  by_cases c6 : c = 6
  · subst c6
    have hj0 : j = 0 := by
      have : j < 1 := by rw [n.1 6 (by decide) (by decide)] at hj; exact hj
      omega
    subst hj0
    exact zK_obj (n := 16) (by decide) (by decide) (by decide) l k hz
  by_cases c7 : c = 7
  · subst c7
    have hj3 : j < 3 := by rw [n.1 7 (by decide) (by decide)] at hj; exact hj
    have hk17 : k < 17 := zct_lt (c := 7) (by decide) hz
    have tb1 : ∀ k, k < 17 → (zct 7 0 k).1 ≠ 0 → ((zct 7 0 k).1, k) ∈ ([(23, 4), (24, 5), (25, 6), (26, 9), (27, 12), (28, 13), (29, 14), (30, 16)] : List (Nat × Nat)) := by decide
    have tb2 : ∀ j, j < 3 → ∀ k, k < 17 → (zct 7 j k).1 ≠ 0 → ((zct 7 j k).1, j) = zct 7 j k := by decide
    have q1 : ((zct 7 j k).1, k) ∈ ([(23, 4), (24, 5), (25, 6), (26, 9), (27, 12), (28, 13), (29, 14), (30, 16)] : List (Nat × Nat)) := tb1 k hk17 hz
    have q2 := tb2 j hj3 k hk17 hz
    rw [← q2]
    rcases (show j = 0 ∨ j = 1 ∨ j = 2 by omega) with rfl | rfl | rfl
    · exact e_rr7_0 _ q1
    · exact e_rr7_1 _ q1
    · exact e_rr7_2 _ q1
  by_cases c8 : c = 8
  · subst c8
    have hj0 : j = 0 := by
      have : j < 1 := by rw [n.1 8 (by decide) (by decide)] at hj; exact hj
      omega
    subst hj0
    have f : ∀ q ∈ ([(0, (31, 0)), (1, (33, 0))] : List (Nat × (Nat × Nat))), zgr τ 8 0 q.1 = q.2 := fun q hq => by
      simp only [List.mem_cons, List.not_mem_nil, or_false] at hq
      rcases hq with rfl | rfl <;> assumption
    exact zK_obj (n := 2) (by decide) (by decide) (by decide) f k hz
  by_cases c9 : c = 9
  · subst c9
    have hj0 : j = 0 := by
      have : j < 1 := by rw [n.1 9 (by decide) (by decide)] at hj; exact hj
      omega
    subst hj0
    have f : ∀ q ∈ ([(2, (35, 0)), (0, (7, 0)), (1, (8, 0))] : List (Nat × (Nat × Nat))), zgr τ 9 0 q.1 = q.2 := fun q hq => by
      simp only [List.mem_cons, List.not_mem_nil, or_false] at hq
      rcases hq with rfl | rfl | rfl <;> assumption
    exact zK_obj (n := 4) (by decide) (by decide) (by decide) f k hz
  by_cases c10 : c = 10
  · subst c10
    have hj0 : j = 0 := by
      have : j < 1 := by rw [n.1 10 (by decide) (by decide)] at hj; exact hj
      omega
    subst hj0
    have f : ∀ q ∈ ([(2, (37, 0)), (3, (38, 0)), (10, (39, 0)), (0, (7, 0)), (1, (9, 0))] : List (Nat × (Nat × Nat))), zgr τ 10 0 q.1 = q.2 := fun q hq => by
      simp only [List.mem_cons, List.not_mem_nil, or_false] at hq
      rcases hq with rfl | rfl | rfl | rfl | rfl <;> assumption
    exact zK_obj (n := 11) (by decide) (by decide) (by decide) f k hz
  by_cases c11 : c = 11
  · subst c11
    have hj0 : j = 0 := by
      have : j < 1 := by rw [n.1 11 (by decide) (by decide)] at hj; exact hj
      omega
    subst hj0
    have f : ∀ q ∈ ([(5, (40, 0)), (9, (41, 0)), (10, (42, 0)), (11, (43, 0)), (13, (45, 0)), (15, (46, 0)), (17, (48, 0)), (18, (49, 0)), (0, (7, 0)), (1, (9, 0)), (2, (10, 0))] : List (Nat × (Nat × Nat))), zgr τ 11 0 q.1 = q.2 := fun q hq => by
      simp only [List.mem_cons, List.not_mem_nil, or_false] at hq
      rcases hq with rfl | rfl | rfl | rfl | rfl | rfl | rfl | rfl | rfl | rfl | rfl <;> assumption
    exact zK_obj (n := 19) (by decide) (by decide) (by decide) f k hz
  by_cases c12 : c = 12
  · subst c12
    have hj0 : j = 0 := by
      have : j < 1 := by rw [n.1 12 (by decide) (by decide)] at hj; exact hj
      omega
    subst hj0
    have f : ∀ q ∈ ([(2, (50, 0)), (0, (7, 0)), (1, (9, 0))] : List (Nat × (Nat × Nat))), zgr τ 12 0 q.1 = q.2 := fun q hq => by
      simp only [List.mem_cons, List.not_mem_nil, or_false] at hq
      rcases hq with rfl | rfl | rfl <;> assumption
    exact zK_obj (n := 10) (by decide) (by decide) (by decide) f k hz
  by_cases c13 : c = 13
  · subst c13
    have hj0 : j = 0 := by
      have : j < 1 := by rw [n.1 13 (by decide) (by decide)] at hj; exact hj
      omega
    subst hj0
    have f : ∀ q ∈ ([(3, (51, 0)), (0, (7, 0)), (1, (8, 0)), (2, (10, 0))] : List (Nat × (Nat × Nat))), zgr τ 13 0 q.1 = q.2 := fun q hq => by
      simp only [List.mem_cons, List.not_mem_nil, or_false] at hq
      rcases hq with rfl | rfl | rfl | rfl <;> assumption
    exact zK_obj (n := 5) (by decide) (by decide) (by decide) f k hz
  by_cases c15 : c = 15
  · subst c15
    have hj4 : j < 4 := by rw [n.1 15 (by decide) (by decide)] at hj; exact hj
    have hk3 : k < 3 := zct_lt (c := 15) (by decide) hz
    have tb : ∀ j, j < 4 → ∀ k, k < 3 → (zct 15 j k).1 ≠ 0 → k = 2 ∧ (53, j) = zct 15 j k := by decide
    obtain ⟨q1, q2⟩ := tb j hj4 k hk3 hz
    rw [← q2, q1]
    rcases (show j = 0 ∨ j = 1 ∨ j = 2 ∨ j = 3 by omega) with rfl | rfl | rfl | rfl <;> assumption
  by_cases c18 : c = 18
  · subst c18
    have hj0 : j = 0 := by
      have : j < 1 := by rw [n.1 18 (by decide) (by decide)] at hj; exact hj
      omega
    subst hj0
    have hk2 : k < 2 := hk (by decide)
    rcases (show k = 0 ∨ k = 1 by omega) with rfl | rfl
    · exact e_g18_0
    · exact e_g18_1
  by_cases c22 : c = 22
  · subst c22
    have hj0 : j = 0 := by
      have : j < 1 := by rw [n.1 22 (by decide) (by decide)] at hj; exact hj
      omega
    subst hj0
    have hk2 : k < 4 := hk (by decide)
    rcases (show k = 0 ∨ k = 1 ∨ k = 2 ∨ k = 3 by omega) with rfl | rfl | rfl | rfl
    · exact e_g22_0
    · exact e_g22_1
    · exact e_g22_2
    · exact e_g22_3
  by_cases c31 : c = 31
  · subst c31
    have hj0 : j = 0 := by
      have : j < 1 := by rw [n.1 31 (by decide) (by decide)] at hj; exact hj
      omega
    subst hj0
    have hk2 : k < 99 := hk (by decide)
    exact e_g31 k hk2
  by_cases c33 : c = 33
  · subst c33
    have hj0 : j = 0 := by
      have : j < 1 := by rw [n.1 33 (by decide) (by decide)] at hj; exact hj
      omega
    subst hj0
    have hk2 : k < 4 := hk (by decide)
    exact e_g33 k hk2
  by_cases c35 : c = 35
  · subst c35
    have hj0 : j = 0 := by
      have : j < 1 := by rw [n.1 35 (by decide) (by decide)] at hj; exact hj
      omega
    subst hj0
    have hk2 : k < 60 := hk (by decide)
    exact e_gw35 k hk2
  by_cases c43 : c = 43
  · subst c43
    have hj0 : j = 0 := by
      have : j < 1 := by rw [n.1 43 (by decide) (by decide)] at hj; exact hj
      omega
    subst hj0
    have hk2 : k < 81 := hk (by decide)
    exact e_gw43 k hk2
  by_cases c46 : c = 46
  · subst c46
    have hj0 : j = 0 := by
      have : j < 1 := by rw [n.1 46 (by decide) (by decide)] at hj; exact hj
      omega
    subst hj0
    have hk2 : k < 9 := hk (by decide)
    exact e_gw46 k hk2
  by_cases c51 : c = 51
  · subst c51
    have hj0 : j = 0 := by
      have : j < 1 := by rw [n.1 51 (by decide) (by decide)] at hj; exact hj
      omega
    subst hj0
    have hk2 : k < 8 := hk (by decide)
    exact e_gw51 k hk2
  have tb : ∀ c, c < 54 → 6 ≤ c → c ∉ ([6, 7, 8, 9, 10, 11, 12, 13, 15, 18, 22, 31, 33, 35, 43, 46, 51] : List Nat) → ∀ e ∈ zCo.getD c [], e.1 = 0 := by decide
  exact absurd (zct_no (tb c (by omega) h1 (by simp [c6, c7, c8, c9, c10, c11, c12, c13, c15, c18, c22, c31, c33, c35, c43, c46, c51]))) hz
end zSt0
