/-! the law's cases, printed by wip/whole/mklaw.py -/
section zLc
variable {d kc ks : Nat} {σ : zSt} {Q : Option zV → zSt → Prop} {v3 : Int32}
theorem zCi.mo {ph : Bool} {d kc ks : Nat} {M : zMth} {As : List zV} {σ : zSt} {K K' : Int32 → zSt → Prop} (h : zCi ph d kc ks M As σ K) (f : ∀ x s, K x s → K' x s) : zCi ph d kc ks M As σ K' := zC.mono h (fun _ s ⟨x, e, q⟩ => ⟨x, e, f x s q⟩)
theorem zCl.mo {ph : Bool} {d kc ks : Nat} {M : zMth} {As : List zV} {σ : zSt} {K K' : Int64 → zSt → Prop} (h : zCl ph d kc ks M As σ K) (f : ∀ x s, K x s → K' x s) : zCl ph d kc ks M As σ K' := zC.mono h (fun _ s ⟨x, e, q⟩ => ⟨x, e, f x s q⟩)
theorem lg_self (x : Int64) : lg_cmp x x = 0 := by
  unfold lg_cmp
  simp
theorem b01 {x y : Int32} (h : x = if y = 0 then 0 else 1) : x = 0 ∨ x = 1 := by
  rw [h]
  split
  · exact Or.inl rfl
  · exact Or.inr rfl
theorem C_260 (hJ : zJ σ) (h1 : vp_in (v3 + 1) (zsc σ)) (h2 : vp_in (v3 + 2) (zsc σ)) (hK : ∀ s, zJ s → zKpp σ s → zE true (d + 16) kc ks M_L_law 2116 [some (.inr (.inr (1, 0))), some (.inr (.inr (6, 0))), some (.inr (.inr (54, 0))), some (.inl v3)] [] s Q) : zE true (d + 16) kc ks M_L_law 260 [some (.inr (.inr (1, 0))), some (.inr (.inr (6, 0))), some (.inr (.inr (54, 0))), some (.inl v3)] [] σ Q := by
  refine T_L_law_260 ⟨h1, h2, zCi.mo (G_field (d := d + 11) (d2 := d + 12) (K := fun x y s => ((x = y) → zE true (d + 16) kc ks M_L_law 2116 [some (.inr (.inr (1, 0))), some (.inr (.inr (6, 0))), some (.inr (.inr (54, 0))), some (.inl v3)] [] s Q) ∧ (¬ (x = y) → Q (some (.inl 0)) s)) hJ _ _ (fun x s j k => ⟨fun _ => hK s j k, fun q => absurd rfl q⟩)) (fun x s ⟨k, h⟩ => ?_)⟩
  simp only [k.1, k.2]
  exact ⟨h1, h2, h⟩
theorem C_293 (hJ : zJ σ) (h1 : vp_in (v3 + 1) (zsc σ)) (h2 : vp_in (v3 + 2) (zsc σ)) (hK : ∀ s, zJ s → zKpp σ s → zE true (d + 16) kc ks M_L_law 2116 [some (.inr (.inr (1, 0))), some (.inr (.inr (6, 0))), some (.inr (.inr (54, 0))), some (.inl v3)] [] s Q) : zE true (d + 16) kc ks M_L_law 293 [some (.inr (.inr (1, 0))), some (.inr (.inr (6, 0))), some (.inr (.inr (54, 0))), some (.inl v3)] [] σ Q := by
  refine T_L_law_293 ⟨h1, h2, fun y hx => zCi.mo (G_wall (d := d + 11) (d2 := d + 12) (K := fun x y s => ((x = y) → zE true (d + 16) kc ks M_L_law 2116 [some (.inr (.inr (1, 0))), some (.inr (.inr (6, 0))), some (.inr (.inr (54, 0))), some (.inl v3)] [] s Q) ∧ (¬ (x = y) → Q (some (.inl 0)) s)) hJ _ _ (b01 hx) (fun x s j k => ⟨fun _ => hK s j k, fun q => absurd rfl q⟩)) (fun x s ⟨k, h⟩ => ?_)⟩
  simp only [k.1, k.2]
  refine ⟨h1, h2, fun w hw => ?_⟩
  rw [← hx] at hw
  rw [hw]
  exact h
theorem C_342 (hJ : zJ σ) (h1 : vp_in (v3 + 1) (zsc σ)) (h2 : vp_in (v3 + 2) (zsc σ)) (h3 : vp_in (v3 + 3) (zsc σ)) (hK : ∀ s, zJ s → zKpp σ s → zE true (d + 16) kc ks M_L_law 2116 [some (.inr (.inr (1, 0))), some (.inr (.inr (6, 0))), some (.inr (.inr (54, 0))), some (.inl v3)] [] s Q) : zE true (d + 16) kc ks M_L_law 342 [some (.inr (.inr (1, 0))), some (.inr (.inr (6, 0))), some (.inr (.inr (54, 0))), some (.inl v3)] [] σ Q := by
  refine T_L_law_342 ⟨h1, h2, h3, zCi.mo (G_plan (d := d + 11) (d2 := d + 10) (K := fun x y s => ((x = y) → zE true (d + 16) kc ks M_L_law 2116 [some (.inr (.inr (1, 0))), some (.inr (.inr (6, 0))), some (.inr (.inr (54, 0))), some (.inl v3)] [] s Q) ∧ (¬ (x = y) → Q (some (.inl 0)) s)) hJ _ _ _ (fun x s j k => ⟨fun _ => hK s j k, fun q => absurd rfl q⟩)) (fun x s ⟨k, h⟩ => ?_)⟩
  simp only [k.1, k.2]
  exact ⟨h1, h2, h3, h⟩
theorem C_385 (hJ : zJ σ) (h1 : vp_in (v3 + 1) (zsc σ)) (h2 : vp_in (v3 + 2) (zsc σ)) (hK : ∀ s, zJ s → zKpp σ s → zE true (d + 16) kc ks M_L_law 2116 [some (.inr (.inr (1, 0))), some (.inr (.inr (6, 0))), some (.inr (.inr (54, 0))), some (.inl v3)] [] s Q) : zE true (d + 16) (1 + kc) (5 + ks) M_L_law 385 [some (.inr (.inr (1, 0))), some (.inr (.inr (6, 0))), some (.inr (.inr (54, 0))), some (.inl v3)] [] σ Q := by
  refine T_L_law_385 (k1 := 1) (m1 := 5) ⟨h1, h2, zCi.mo (G_thing (d := d + 12) (d2 := d + 12) (K := fun x y s => ((x = y) → zE true (d + 16) kc ks M_L_law 2116 [some (.inr (.inr (1, 0))), some (.inr (.inr (6, 0))), some (.inr (.inr (54, 0))), some (.inl v3)] [] s Q) ∧ (¬ (x = y) → Q (some (.inl 0)) s)) hJ _ _ (fun x s j k => ⟨fun _ => hK s j k, fun q => absurd rfl q⟩)) (fun x s ⟨k, h⟩ => ?_)⟩
  simp only [k.1, k.2]
  exact ⟨h1, h2, h⟩
theorem C_418 (hJ : zJ σ) (h1 : vp_in (v3 + 1) (zsc σ)) (h2 : vp_in (v3 + 2) (zsc σ)) (h3 : vp_in (v3 + 3) (zsc σ)) (h4 : vp_in (v3 + 4) (zsc σ)) (h5 : vp_in (v3 + 5) (zsc σ)) (hK : ∀ s, zJ s → zKpp σ s → zE true (d + 16) kc ks M_L_law 2116 [some (.inr (.inr (1, 0))), some (.inr (.inr (6, 0))), some (.inr (.inr (54, 0))), some (.inl v3)] [] s Q) : zE true (d + 16) kc ks M_L_law 418 [some (.inr (.inr (1, 0))), some (.inr (.inr (6, 0))), some (.inr (.inr (54, 0))), some (.inl v3)] [] σ Q := by
  refine T_L_law_418 ⟨h1, h2, h3, h4, h5, zCi.mo (G_box (d := d + 12) (d2 := d + 10) (K := fun x y s => ((x = y) → zE true (d + 16) kc ks M_L_law 2116 [some (.inr (.inr (1, 0))), some (.inr (.inr (6, 0))), some (.inr (.inr (54, 0))), some (.inl v3)] [] s Q) ∧ (¬ (x = y) → Q (some (.inl 0)) s)) hJ _ _ _ _ _ (fun x s j k => ⟨fun _ => hK s j k, fun q => absurd rfl q⟩)) (fun x s ⟨k, h⟩ => ?_)⟩
  simp only [k.1, k.2]
  exact ⟨h1, h2, h3, h4, h5, h⟩
theorem C_481 (hJ : zJ σ) (h1 : vp_in (v3 + 1) (zsc σ)) (h2 : vp_in (v3 + 2) (zsc σ)) (hK : ∀ s, zJ s → zKpp σ s → zE true (d + 16) kc ks M_L_law 2116 [some (.inr (.inr (1, 0))), some (.inr (.inr (6, 0))), some (.inr (.inr (54, 0))), some (.inl v3)] [] s Q) : zE true (d + 16) kc ks M_L_law 481 [some (.inr (.inr (1, 0))), some (.inr (.inr (6, 0))), some (.inr (.inr (54, 0))), some (.inl v3)] [] σ Q := by
  refine T_L_law_481 ⟨h1, h2, zCi.mo (G_about (d := d + 7) (d2 := d + 6) (K := fun x y s => ((x = y) → zE true (d + 16) kc ks M_L_law 2116 [some (.inr (.inr (1, 0))), some (.inr (.inr (6, 0))), some (.inr (.inr (54, 0))), some (.inl v3)] [] s Q) ∧ (¬ (x = y) → Q (some (.inl 0)) s)) hJ _ _ (fun x s j k => ⟨fun _ => hK s j k, fun q => absurd rfl q⟩)) (fun x s ⟨k, h⟩ => ?_)⟩
  simp only [k.1, k.2]
  exact ⟨h1, h2, h⟩
theorem C_514 (hJ : zJ σ) (h1 : vp_in (v3 + 1) (zsc σ)) (h2 : vp_in (v3 + 2) (zsc σ)) (h3 : vp_in (v3 + 3) (zsc σ)) (hK : ∀ s, zJ s → zKpp σ s → zE true (d + 16) kc ks M_L_law 2116 [some (.inr (.inr (1, 0))), some (.inr (.inr (6, 0))), some (.inr (.inr (54, 0))), some (.inl v3)] [] s Q) : zE true (d + 16) kc ks M_L_law 514 [some (.inr (.inr (1, 0))), some (.inr (.inr (6, 0))), some (.inr (.inr (54, 0))), some (.inl v3)] [] σ Q := by
  refine T_L_law_514 ⟨h1, h2, h3, zCi.mo (G_can (d := d + 7) (d2 := d + 6) (K := fun x y s => ((x = y) → zE true (d + 16) kc ks M_L_law 2116 [some (.inr (.inr (1, 0))), some (.inr (.inr (6, 0))), some (.inr (.inr (54, 0))), some (.inl v3)] [] s Q) ∧ (¬ (x = y) → Q (some (.inl 0)) s)) hJ _ _ _ (fun x s j k => ⟨fun _ => hK s j k, fun q => absurd rfl q⟩)) (fun x s ⟨k, h⟩ => ?_)⟩
  simp only [k.1, k.2]
  exact ⟨h1, h2, h3, h⟩
theorem C_557 (hJ : zJ σ) (h1 : vp_in (v3 + 1) (zsc σ)) (hK : ∀ s, zJ s → zKpp σ s → zE true (d + 16) kc ks M_L_law 2116 [some (.inr (.inr (1, 0))), some (.inr (.inr (6, 0))), some (.inr (.inr (54, 0))), some (.inl v3)] [] s Q) : zE true (d + 16) kc ks M_L_law 557 [some (.inr (.inr (1, 0))), some (.inr (.inr (6, 0))), some (.inr (.inr (54, 0))), some (.inl v3)] [] σ Q := by
  refine T_L_law_557 ⟨h1, zCl.mo (G_cells (d := d + 7) (d2 := d + 6) (L := fun x y s => ((lg_cmp x y = 0) → zE true (d + 16) kc ks M_L_law 2116 [some (.inr (.inr (1, 0))), some (.inr (.inr (6, 0))), some (.inr (.inr (54, 0))), some (.inl v3)] [] s Q) ∧ (¬ (lg_cmp x y = 0) → Q (some (.inl 0)) s)) hJ _ (fun x s j k => ⟨fun _ => hK s j k, fun q => absurd (lg_self x) q⟩)) (fun x s ⟨k, h⟩ => ?_)⟩
  simp only [k.1, k.2]
  exact ⟨h1, h⟩
theorem C_581 (hJ : zJ σ) (h1 : vp_in (v3 + 1) (zsc σ)) (h2 : vp_in (v3 + 2) (zsc σ)) (h3 : vp_in (v3 + 3) (zsc σ)) (hK : ∀ s, zJ s → zKpp σ s → zE true (d + 16) kc ks M_L_law 2116 [some (.inr (.inr (1, 0))), some (.inr (.inr (6, 0))), some (.inr (.inr (54, 0))), some (.inl v3)] [] s Q) : zE true (d + 16) kc ks M_L_law 581 [some (.inr (.inr (1, 0))), some (.inr (.inr (6, 0))), some (.inr (.inr (54, 0))), some (.inl v3)] [] σ Q := by
  refine T_L_law_581 ⟨h1, h2, h3, zCi.mo (G_hops (d := d + 10) (d2 := d + 10) (K := fun x y s => ((x = y) → zE true (d + 16) kc ks M_L_law 2116 [some (.inr (.inr (1, 0))), some (.inr (.inr (6, 0))), some (.inr (.inr (54, 0))), some (.inl v3)] [] s Q) ∧ (¬ (x = y) → Q (some (.inl 0)) s)) hJ _ _ _ (fun x s j k => ⟨fun _ => hK s j k, fun q => absurd rfl q⟩)) (fun x s ⟨k, h⟩ => ?_)⟩
  simp only [k.1, k.2]
  exact ⟨h1, h2, h3, h⟩
theorem C_624 (hJ : zJ σ) (h1 : vp_in (v3 + 1) (zsc σ)) (h2 : vp_in (v3 + 2) (zsc σ)) (h3 : vp_in (v3 + 3) (zsc σ)) (h4 : vp_in (v3 + 4) (zsc σ)) (h5 : vp_in (v3 + 5) (zsc σ)) (hK : ∀ s, zJ s → zKpp σ s → zE true (d + 16) kc ks M_L_law 2116 [some (.inr (.inr (1, 0))), some (.inr (.inr (6, 0))), some (.inr (.inr (54, 0))), some (.inl v3)] [] s Q) : zE true (d + 16) (1 + kc) (6 + ks) M_L_law 624 [some (.inr (.inr (1, 0))), some (.inr (.inr (6, 0))), some (.inr (.inr (54, 0))), some (.inl v3)] [] σ Q := by
  refine T_L_law_624 (k1 := 1) (m1 := 6) ⟨h1, h2, h3, h4, h5, zCi.mo (G_measure (d := d + 12) (d2 := d + 12) (K := fun x y s => ((x = y) → zE true (d + 16) kc ks M_L_law 2116 [some (.inr (.inr (1, 0))), some (.inr (.inr (6, 0))), some (.inr (.inr (54, 0))), some (.inl v3)] [] s Q) ∧ (¬ (x = y) → Q (some (.inl 0)) s)) hJ _ _ _ _ _ (fun x s j k => ⟨fun _ => hK s j k, fun q => absurd rfl q⟩)) (fun x s ⟨k, h⟩ => ?_)⟩
  simp only [k.1, k.2]
  exact ⟨h1, h2, h3, h4, h5, h⟩
theorem C_687 (hJ : zJ σ) (h1 : vp_in (v3 + 1) (zsc σ)) (h2 : vp_in (v3 + 2) (zsc σ)) (h3 : vp_in (v3 + 3) (zsc σ)) (h4 : vp_in (v3 + 4) (zsc σ)) (hK : ∀ s, zJ s → zKpp σ s → zE true (d + 16) kc ks M_L_law 2116 [some (.inr (.inr (1, 0))), some (.inr (.inr (6, 0))), some (.inr (.inr (54, 0))), some (.inl v3)] [] s Q) : zE true (d + 16) (13 + kc) (78 + ks) M_L_law 687 [some (.inr (.inr (1, 0))), some (.inr (.inr (6, 0))), some (.inr (.inr (54, 0))), some (.inl v3)] [] σ Q := by
  refine T_L_law_687 (k1 := 13) (m1 := 78) ⟨h1, h2, h3, h4, zCi.mo (G_measures (d := d + 10) (d2 := d + 11) (K := fun x y s => ((x = y) → zE true (d + 16) kc ks M_L_law 2116 [some (.inr (.inr (1, 0))), some (.inr (.inr (6, 0))), some (.inr (.inr (54, 0))), some (.inl v3)] [] s Q) ∧ (¬ (x = y) → Q (some (.inl 0)) s)) hJ _ _ _ _ (fun x s j k => ⟨fun _ => hK s j k, fun q => absurd rfl q⟩)) (fun x s ⟨k, h⟩ => ?_)⟩
  simp only [k.1, k.2]
  exact ⟨h1, h2, h3, h4, h⟩
theorem C_740 (hJ : zJ σ) (h1 : vp_in (v3 + 1) (zsc σ)) (h2 : vp_in (v3 + 2) (zsc σ)) (hK : ∀ s, zJ s → zKpp σ s → zE true (d + 16) kc ks M_L_law 2116 [some (.inr (.inr (1, 0))), some (.inr (.inr (6, 0))), some (.inr (.inr (54, 0))), some (.inl v3)] [] s Q) : zE true (d + 16) kc ks M_L_law 740 [some (.inr (.inr (1, 0))), some (.inr (.inr (6, 0))), some (.inr (.inr (54, 0))), some (.inl v3)] [] σ Q := by
  refine T_L_law_740 ⟨h1, h2, fun y hx => zCi.mo (G_turn (d := d + 12) (d2 := d + 12) (K := fun x y s => ((x = y) → zE true (d + 16) kc ks M_L_law 2116 [some (.inr (.inr (1, 0))), some (.inr (.inr (6, 0))), some (.inr (.inr (54, 0))), some (.inl v3)] [] s Q) ∧ (¬ (x = y) → Q (some (.inl 0)) s)) hJ _ _ (b01 hx) (fun x s j k => ⟨fun _ => hK s j k, fun q => absurd rfl q⟩)) (fun x s ⟨k, h⟩ => ?_)⟩
  simp only [k.1, k.2]
  refine ⟨h1, h2, fun w hw => ?_⟩
  rw [← hx] at hw
  rw [hw]
  exact h
theorem C_789 (hJ : zJ σ) (h1 : vp_in (v3 + 1) (zsc σ)) (h2 : vp_in (v3 + 2) (zsc σ)) (hK : ∀ s, zJ s → zKpp σ s → zE true (d + 16) kc ks M_L_law 2116 [some (.inr (.inr (1, 0))), some (.inr (.inr (6, 0))), some (.inr (.inr (54, 0))), some (.inl v3)] [] s Q) : zE true (d + 16) kc ks M_L_law 789 [some (.inr (.inr (1, 0))), some (.inr (.inr (6, 0))), some (.inr (.inr (54, 0))), some (.inl v3)] [] σ Q := by
  refine T_L_law_789 ⟨h1, h2, zCi.mo (G_told (d := d + 7) (d2 := d + 6) (K := fun x y s => ((x = y) → zE true (d + 16) kc ks M_L_law 2116 [some (.inr (.inr (1, 0))), some (.inr (.inr (6, 0))), some (.inr (.inr (54, 0))), some (.inl v3)] [] s Q) ∧ (¬ (x = y) → Q (some (.inl 0)) s)) hJ _ _ (fun x s j k => ⟨fun _ => hK s j k, fun q => absurd rfl q⟩)) (fun x s ⟨k, h⟩ => ?_)⟩
  simp only [k.1, k.2]
  exact ⟨h1, h2, h⟩
theorem C_822 (hJ : zJ σ) (h1 : vp_in (v3 + 1) (zsc σ)) (h2 : vp_in (v3 + 2) (zsc σ)) (h3 : vp_in (v3 + 3) (zsc σ)) (hK : ∀ s, zJ s → zKpp σ s → zE true (d + 16) kc ks M_L_law 2116 [some (.inr (.inr (1, 0))), some (.inr (.inr (6, 0))), some (.inr (.inr (54, 0))), some (.inl v3)] [] s Q) : zE true (d + 16) kc ks M_L_law 822 [some (.inr (.inr (1, 0))), some (.inr (.inr (6, 0))), some (.inr (.inr (54, 0))), some (.inl v3)] [] σ Q := by
  refine T_L_law_822 ⟨h1, h2, h3, zCi.mo (G_keeps (d := d + 8) (d2 := d + 9) (K := fun x y s => ((x = y) → zE true (d + 16) kc ks M_L_law 2116 [some (.inr (.inr (1, 0))), some (.inr (.inr (6, 0))), some (.inr (.inr (54, 0))), some (.inl v3)] [] s Q) ∧ (¬ (x = y) → Q (some (.inl 0)) s)) hJ _ _ _ (fun x s j k => ⟨fun _ => hK s j k, fun q => absurd rfl q⟩)) (fun x s ⟨k, h⟩ => ?_)⟩
  simp only [k.1, k.2]
  exact ⟨h1, h2, h3, h⟩
theorem C_865 (hJ : zJ σ) (hK : ∀ s, zJ s → zKpp σ s → zE true (d + 16) kc ks M_L_law 2116 [some (.inr (.inr (1, 0))), some (.inr (.inr (6, 0))), some (.inr (.inr (54, 0))), some (.inl v3)] [] s Q) : zE true (d + 16) kc ks M_L_law 865 [some (.inr (.inr (1, 0))), some (.inr (.inr (6, 0))), some (.inr (.inr (54, 0))), some (.inl v3)] [] σ Q := by
  refine T_L_law_865 (zCi.mo (G_quarrel (d := d + 7) (d2 := d + 6) (K := fun x y s => ((x = y) → zE true (d + 16) kc ks M_L_law 2116 [some (.inr (.inr (1, 0))), some (.inr (.inr (6, 0))), some (.inr (.inr (54, 0))), some (.inl v3)] [] s Q) ∧ (¬ (x = y) → Q (some (.inl 0)) s)) hJ  (fun x s j k => ⟨fun _ => hK s j k, fun q => absurd rfl q⟩)) (fun x s ⟨k, h⟩ => ?_))
  exact h
theorem C_878 (hJ : zJ σ) (h1 : vp_in (v3 + 1) (zsc σ)) (hK : ∀ s, zJ s → zKpp σ s → zE true (d + 16) kc ks M_L_law 2116 [some (.inr (.inr (1, 0))), some (.inr (.inr (6, 0))), some (.inr (.inr (54, 0))), some (.inl v3)] [] s Q) : zE true (d + 16) kc ks M_L_law 878 [some (.inr (.inr (1, 0))), some (.inr (.inr (6, 0))), some (.inr (.inr (54, 0))), some (.inl v3)] [] σ Q := by
  refine T_L_law_878 ⟨h1, zCi.mo (G_group (d := d + 10) (d2 := d + 12) (K := fun x y s => ((x = y) → zE true (d + 16) kc ks M_L_law 2116 [some (.inr (.inr (1, 0))), some (.inr (.inr (6, 0))), some (.inr (.inr (54, 0))), some (.inl v3)] [] s Q) ∧ (¬ (x = y) → Q (some (.inl 0)) s)) hJ _ (fun x s j k => ⟨fun _ => hK s j k, fun q => absurd rfl q⟩)) (fun x s ⟨k, h⟩ => ?_)⟩
  simp only [k.1, k.2]
  exact ⟨h1, h⟩
theorem C_901 (hJ : zJ σ) (h1 : vp_in (v3 + 1) (zsc σ)) (hK : ∀ s, zJ s → zKpp σ s → zE true (d + 16) kc ks M_L_law 2116 [some (.inr (.inr (1, 0))), some (.inr (.inr (6, 0))), some (.inr (.inr (54, 0))), some (.inl v3)] [] s Q) : zE true (d + 16) kc ks M_L_law 901 [some (.inr (.inr (1, 0))), some (.inr (.inr (6, 0))), some (.inr (.inr (54, 0))), some (.inl v3)] [] σ Q := by
  refine T_L_law_901 ⟨h1, fun y hx => zCi.mo (G_alone (ph := true) (d := d + 13) (d2 := d + 14) (K := fun x y s => ((x = y) → zE true (d + 16) kc ks M_L_law 2116 [some (.inr (.inr (1, 0))), some (.inr (.inr (6, 0))), some (.inr (.inr (54, 0))), some (.inl v3)] [] s Q) ∧ (¬ (x = y) → Q (some (.inl 0)) s)) hJ _ (b01 hx) (fun x s j k => ⟨fun _ => hK s j k, fun q => absurd rfl q⟩)) (fun x s ⟨k, h⟩ => ?_)⟩
  simp only [k.1, k.2]
  refine ⟨h1, fun w hw => ?_⟩
  rw [← hx] at hw
  rw [hw]
  exact h
theorem C_940 (hJ : zJ σ) (h1 : vp_in (v3 + 1) (zsc σ)) (hK : ∀ s, zJ s → zKpp σ s → zE true (d + 16) kc ks M_L_law 2116 [some (.inr (.inr (1, 0))), some (.inr (.inr (6, 0))), some (.inr (.inr (54, 0))), some (.inl v3)] [] s Q) : zE true (d + 16) kc ks M_L_law 940 [some (.inr (.inr (1, 0))), some (.inr (.inr (6, 0))), some (.inr (.inr (54, 0))), some (.inl v3)] [] σ Q := by
  refine T_L_law_940 ⟨h1, zCi.mo (G_placings (d := d + 0) (d2 := d + 4) (K := fun x y s => ((x = y) → zE true (d + 16) kc ks M_L_law 2116 [some (.inr (.inr (1, 0))), some (.inr (.inr (6, 0))), some (.inr (.inr (54, 0))), some (.inl v3)] [] s Q) ∧ (¬ (x = y) → Q (some (.inl 0)) s)) hJ _ (fun x s j k => ⟨fun _ => hK s j k, fun q => absurd rfl q⟩)) (fun x s ⟨k, h⟩ => ?_)⟩
  simp only [k.1, k.2]
  exact ⟨h1, h⟩
theorem C_963 (hJ : zJ σ) (hK : ∀ s, zJ s → zKpp σ s → zE true (d + 16) kc ks M_L_law 2116 [some (.inr (.inr (1, 0))), some (.inr (.inr (6, 0))), some (.inr (.inr (54, 0))), some (.inl v3)] [] s Q) : zE true (d + 16) kc ks M_L_law 963 [some (.inr (.inr (1, 0))), some (.inr (.inr (6, 0))), some (.inr (.inr (54, 0))), some (.inl v3)] [] σ Q := by
  refine T_L_law_963 (zCi.mo (G_trials (d := d + 14) (d2 := d + 14) (K := fun x y s => ((x = y) → zE true (d + 16) kc ks M_L_law 2116 [some (.inr (.inr (1, 0))), some (.inr (.inr (6, 0))), some (.inr (.inr (54, 0))), some (.inl v3)] [] s Q) ∧ (¬ (x = y) → Q (some (.inl 0)) s)) hJ  (fun x s j k => ⟨fun _ => hK s j k, fun q => absurd rfl q⟩)) (fun x s ⟨k, h⟩ => ?_))
  exact h
theorem C_976 (hJ : zJ σ) (h1 : vp_in (v3 + 1) (zsc σ)) (h2 : vp_in (v3 + 2) (zsc σ)) (hK : ∀ s, zJ s → zKpp σ s → zE true (d + 16) kc ks M_L_law 2116 [some (.inr (.inr (1, 0))), some (.inr (.inr (6, 0))), some (.inr (.inr (54, 0))), some (.inl v3)] [] s Q) : zE true (d + 16) kc ks M_L_law 976 [some (.inr (.inr (1, 0))), some (.inr (.inr (6, 0))), some (.inr (.inr (54, 0))), some (.inl v3)] [] σ Q := by
  refine T_L_law_976 ⟨h1, h2, zCi.mo (G_nth (d := d + 0) (d2 := d + 4) (K := fun x y s => ((x = y) → zE true (d + 16) kc ks M_L_law 2116 [some (.inr (.inr (1, 0))), some (.inr (.inr (6, 0))), some (.inr (.inr (54, 0))), some (.inl v3)] [] s Q) ∧ (¬ (x = y) → Q (some (.inl 0)) s)) hJ _ _ (fun x s j k => ⟨fun _ => hK s j k, fun q => absurd rfl q⟩)) (fun x s ⟨k, h⟩ => ?_)⟩
  simp only [k.1, k.2]
  exact ⟨h1, h2, h⟩
theorem C_1009 (hJ : zJ σ) (h1 : vp_in (v3 + 1) (zsc σ)) (hK : ∀ s, zJ s → zKpp σ s → zE true (d + 16) kc ks M_L_law 2116 [some (.inr (.inr (1, 0))), some (.inr (.inr (6, 0))), some (.inr (.inr (54, 0))), some (.inl v3)] [] s Q) : zE true (d + 16) kc ks M_L_law 1009 [some (.inr (.inr (1, 0))), some (.inr (.inr (6, 0))), some (.inr (.inr (54, 0))), some (.inl v3)] [] σ Q := by
  refine T_L_law_1009 ⟨h1, zCi.mo (G_sure (d := d + 0) (d2 := d + 4) (K := fun x y s => ((x = y) → zE true (d + 16) kc ks M_L_law 2116 [some (.inr (.inr (1, 0))), some (.inr (.inr (6, 0))), some (.inr (.inr (54, 0))), some (.inl v3)] [] s Q) ∧ (¬ (x = y) → Q (some (.inl 0)) s)) hJ _ (fun x s j k => ⟨fun _ => hK s j k, fun q => absurd rfl q⟩)) (fun x s ⟨k, h⟩ => ?_)⟩
  simp only [k.1, k.2]
  exact ⟨h1, h⟩
theorem C_1032 (hJ : zJ σ) (h1 : vp_in (v3 + 1) (zsc σ)) (hK : ∀ s, zJ s → zKpp σ s → zE true (d + 16) kc ks M_L_law 2116 [some (.inr (.inr (1, 0))), some (.inr (.inr (6, 0))), some (.inr (.inr (54, 0))), some (.inl v3)] [] s Q) : zE true (d + 16) kc ks M_L_law 1032 [some (.inr (.inr (1, 0))), some (.inr (.inr (6, 0))), some (.inr (.inr (54, 0))), some (.inl v3)] [] σ Q := by
  refine T_L_law_1032 ⟨h1, zCi.mo (G_could (d := d + 0) (d2 := d + 4) (K := fun x y s => ((x = y) → zE true (d + 16) kc ks M_L_law 2116 [some (.inr (.inr (1, 0))), some (.inr (.inr (6, 0))), some (.inr (.inr (54, 0))), some (.inl v3)] [] s Q) ∧ (¬ (x = y) → Q (some (.inl 0)) s)) hJ _ (fun x s j k => ⟨fun _ => hK s j k, fun q => absurd rfl q⟩)) (fun x s ⟨k, h⟩ => ?_)⟩
  simp only [k.1, k.2]
  exact ⟨h1, h⟩
theorem C_1055 (hJ : zJ σ) (h1 : vp_in (v3 + 1) (zsc σ)) (h2 : vp_in (v3 + 2) (zsc σ)) (h3 : vp_in (v3 + 3) (zsc σ)) (h4 : vp_in (v3 + 4) (zsc σ)) (hK : ∀ s, zJ s → zKpp σ s → zE true (d + 16) kc ks M_L_law 2116 [some (.inr (.inr (1, 0))), some (.inr (.inr (6, 0))), some (.inr (.inr (54, 0))), some (.inl v3)] [] s Q) : zE true (d + 16) kc ks M_L_law 1055 [some (.inr (.inr (1, 0))), some (.inr (.inr (6, 0))), some (.inr (.inr (54, 0))), some (.inl v3)] [] σ Q := by
  refine T_L_law_1055 ⟨h1, h2, h3, h4, zCi.mo (G_together (d := d + 0) (d2 := d + 4) (K := fun x y s => ((x = y) → zE true (d + 16) kc ks M_L_law 2116 [some (.inr (.inr (1, 0))), some (.inr (.inr (6, 0))), some (.inr (.inr (54, 0))), some (.inl v3)] [] s Q) ∧ (¬ (x = y) → Q (some (.inl 0)) s)) hJ _ _ _ _ (fun x s j k => ⟨fun _ => hK s j k, fun q => absurd rfl q⟩)) (fun x s ⟨k, h⟩ => ?_)⟩
  simp only [k.1, k.2]
  exact ⟨h1, h2, h3, h4, h⟩
theorem C_1108 (hJ : zJ σ) (h1 : vp_in (v3 + 1) (zsc σ)) (h2 : vp_in (v3 + 2) (zsc σ)) (hK : ∀ s, zJ s → zKpp σ s → zE true (d + 16) kc ks M_L_law 2116 [some (.inr (.inr (1, 0))), some (.inr (.inr (6, 0))), some (.inr (.inr (54, 0))), some (.inl v3)] [] s Q) : zE true (d + 16) kc ks M_L_law 1108 [some (.inr (.inr (1, 0))), some (.inr (.inr (6, 0))), some (.inr (.inr (54, 0))), some (.inl v3)] [] σ Q := by
  refine T_L_law_1108 ⟨h1, h2, zCi.mo (G_ask (d := d + 0) (d2 := d + 4) (K := fun x y s => ((x = y) → zE true (d + 16) kc ks M_L_law 2116 [some (.inr (.inr (1, 0))), some (.inr (.inr (6, 0))), some (.inr (.inr (54, 0))), some (.inl v3)] [] s Q) ∧ (¬ (x = y) → Q (some (.inl 0)) s)) hJ _ _ (fun x s j k => ⟨fun _ => hK s j k, fun q => absurd rfl q⟩)) (fun x s ⟨k, h⟩ => ?_)⟩
  simp only [k.1, k.2]
  exact ⟨h1, h2, h⟩
theorem C_1141 (hJ : zJ σ) (h1 : vp_in (v3 + 1) (zsc σ)) (h2 : vp_in (v3 + 2) (zsc σ)) (hK : ∀ s, zJ s → zKpp σ s → zE true (d + 16) kc ks M_L_law 2116 [some (.inr (.inr (1, 0))), some (.inr (.inr (6, 0))), some (.inr (.inr (54, 0))), some (.inl v3)] [] s Q) : zE true (d + 16) kc ks M_L_law 1141 [some (.inr (.inr (1, 0))), some (.inr (.inr (6, 0))), some (.inr (.inr (54, 0))), some (.inl v3)] [] σ Q := by
  refine T_L_law_1141 ⟨h1, h2, zCi.mo (G_between (d := d + 0) (d2 := d + 4) (K := fun x y s => ((x = y) → zE true (d + 16) kc ks M_L_law 2116 [some (.inr (.inr (1, 0))), some (.inr (.inr (6, 0))), some (.inr (.inr (54, 0))), some (.inl v3)] [] s Q) ∧ (¬ (x = y) → Q (some (.inl 0)) s)) hJ _ _ (fun x s j k => ⟨fun _ => hK s j k, fun q => absurd rfl q⟩)) (fun x s ⟨k, h⟩ => ?_)⟩
  simp only [k.1, k.2]
  exact ⟨h1, h2, h⟩
theorem C_1174 (hJ : zJ σ) (h1 : vp_in (v3 + 1) (zsc σ)) (h2 : vp_in (v3 + 2) (zsc σ)) (hK : ∀ s, zJ s → zKpp σ s → zE true (d + 16) kc ks M_L_law 2116 [some (.inr (.inr (1, 0))), some (.inr (.inr (6, 0))), some (.inr (.inr (54, 0))), some (.inl v3)] [] s Q) : zE true (d + 16) kc ks M_L_law 1174 [some (.inr (.inr (1, 0))), some (.inr (.inr (6, 0))), some (.inr (.inr (54, 0))), some (.inl v3)] [] σ Q := by
  refine T_L_law_1174 ⟨h1, h2, zCi.mo (G_put (d := d + 12) (d2 := d + 12) (K := fun x y s => ((x = y) → zE true (d + 16) kc ks M_L_law 2116 [some (.inr (.inr (1, 0))), some (.inr (.inr (6, 0))), some (.inr (.inr (54, 0))), some (.inl v3)] [] s Q) ∧ (¬ (x = y) → Q (some (.inl 0)) s)) hJ _ _ (fun x s j k => ⟨fun _ => hK s j k, fun q => absurd rfl q⟩)) (fun x s ⟨k, h⟩ => ?_)⟩
  simp only [k.1, k.2]
  exact ⟨h1, h2, h⟩
theorem C_1207 (hJ : zJ σ) (h1 : vp_in (v3 + 1) (zsc σ)) (h2 : vp_in (v3 + 2) (zsc σ)) (hK : ∀ s, zJ s → zKpp σ s → zE true (d + 16) kc ks M_L_law 2116 [some (.inr (.inr (1, 0))), some (.inr (.inr (6, 0))), some (.inr (.inr (54, 0))), some (.inl v3)] [] s Q) : zE true (d + 16) kc ks M_L_law 1207 [some (.inr (.inr (1, 0))), some (.inr (.inr (6, 0))), some (.inr (.inr (54, 0))), some (.inl v3)] [] σ Q := by
  refine T_L_law_1207 ⟨h1, h2, zCi.mo (G_take (d := d + 0) (d2 := d + 4) (K := fun x y s => ((x = y) → zE true (d + 16) kc ks M_L_law 2116 [some (.inr (.inr (1, 0))), some (.inr (.inr (6, 0))), some (.inr (.inr (54, 0))), some (.inl v3)] [] s Q) ∧ (¬ (x = y) → Q (some (.inl 0)) s)) hJ _ _ (fun x s j k => ⟨fun _ => hK s j k, fun q => absurd rfl q⟩)) (fun x s ⟨k, h⟩ => ?_)⟩
  simp only [k.1, k.2]
  exact ⟨h1, h2, h⟩
theorem C_1240 (hJ : zJ σ) (hK : ∀ s, zJ s → zKpp σ s → zE true (d + 16) kc ks M_L_law 2116 [some (.inr (.inr (1, 0))), some (.inr (.inr (6, 0))), some (.inr (.inr (54, 0))), some (.inl v3)] [] s Q) : zE true (d + 16) kc ks M_L_law 1240 [some (.inr (.inr (1, 0))), some (.inr (.inr (6, 0))), some (.inr (.inr (54, 0))), some (.inl v3)] [] σ Q := by
  refine T_L_law_1240 (zCi.mo (G_check (d := d + 8) (d2 := d + 8) (K := fun x y s => ((x = y) → zE true (d + 16) kc ks M_L_law 2116 [some (.inr (.inr (1, 0))), some (.inr (.inr (6, 0))), some (.inr (.inr (54, 0))), some (.inl v3)] [] s Q) ∧ (¬ (x = y) → Q (some (.inl 0)) s)) hJ  (fun x s j k => ⟨fun _ => hK s j k, fun q => absurd rfl q⟩)) (fun x s ⟨k, h⟩ => ?_))
  exact h
theorem C_1253 (hJ : zJ σ) (h1 : vp_in (v3 + 1) (zsc σ)) (hK : ∀ s, zJ s → zKpp σ s → zE true (d + 16) kc ks M_L_law 2116 [some (.inr (.inr (1, 0))), some (.inr (.inr (6, 0))), some (.inr (.inr (54, 0))), some (.inl v3)] [] s Q) : zE true (d + 16) kc ks M_L_law 1253 [some (.inr (.inr (1, 0))), some (.inr (.inr (6, 0))), some (.inr (.inr (54, 0))), some (.inl v3)] [] σ Q := by
  refine T_L_law_1253 ⟨h1, zCi.mo (G_flips (d := d + 8) (d2 := d + 7) (K := fun x y s => ((x = y) → zE true (d + 16) kc ks M_L_law 2116 [some (.inr (.inr (1, 0))), some (.inr (.inr (6, 0))), some (.inr (.inr (54, 0))), some (.inl v3)] [] s Q) ∧ (¬ (x = y) → Q (some (.inl 0)) s)) hJ _ (fun x s j k => ⟨fun _ => hK s j k, fun q => absurd rfl q⟩)) (fun x s ⟨k, h⟩ => ?_)⟩
  simp only [k.1, k.2]
  exact ⟨h1, h⟩
theorem C_1276 (hJ : zJ σ) (h1 : vp_in (v3 + 1) (zsc σ)) (h2 : vp_in (v3 + 2) (zsc σ)) (h3 : vp_in (v3 + 3) (zsc σ)) (hK : ∀ s, zJ s → zKpp σ s → zE true (d + 16) kc ks M_L_law 2116 [some (.inr (.inr (1, 0))), some (.inr (.inr (6, 0))), some (.inr (.inr (54, 0))), some (.inl v3)] [] s Q) : zE true (d + 16) kc ks M_L_law 1276 [some (.inr (.inr (1, 0))), some (.inr (.inr (6, 0))), some (.inr (.inr (54, 0))), some (.inl v3)] [] σ Q := by
  refine T_L_law_1276 ⟨h1, h2, h3, zCi.mo (G_flip (d := d + 7) (d2 := d + 6) (K := fun x y s => ((x = y) → zE true (d + 16) kc ks M_L_law 2116 [some (.inr (.inr (1, 0))), some (.inr (.inr (6, 0))), some (.inr (.inr (54, 0))), some (.inl v3)] [] s Q) ∧ (¬ (x = y) → Q (some (.inl 0)) s)) hJ _ _ _ (fun x s j k => ⟨fun _ => hK s j k, fun q => absurd rfl q⟩)) (fun x s ⟨k, h⟩ => ?_)⟩
  simp only [k.1, k.2]
  exact ⟨h1, h2, h3, h⟩
theorem C_1319 (hJ : zJ σ) (h1 : vp_in (v3 + 1) (zsc σ)) (h2 : vp_in (v3 + 2) (zsc σ)) (hK : ∀ s, zJ s → zKpp σ s → zE true (d + 16) kc ks M_L_law 2116 [some (.inr (.inr (1, 0))), some (.inr (.inr (6, 0))), some (.inr (.inr (54, 0))), some (.inl v3)] [] s Q) : zE true (d + 16) kc ks M_L_law 1319 [some (.inr (.inr (1, 0))), some (.inr (.inr (6, 0))), some (.inr (.inr (54, 0))), some (.inl v3)] [] σ Q := by
  refine T_L_law_1319 ⟨h1, h2, zCi.mo (G_flipped (d := d + 7) (d2 := d + 6) (K := fun x y s => ((x = y) → zE true (d + 16) kc ks M_L_law 2116 [some (.inr (.inr (1, 0))), some (.inr (.inr (6, 0))), some (.inr (.inr (54, 0))), some (.inl v3)] [] s Q) ∧ (¬ (x = y) → Q (some (.inl 0)) s)) hJ _ _ (fun x s j k => ⟨fun _ => hK s j k, fun q => absurd rfl q⟩)) (fun x s ⟨k, h⟩ => ?_)⟩
  simp only [k.1, k.2]
  exact ⟨h1, h2, h⟩
theorem C_1352 (hJ : zJ σ) (h1 : vp_in (v3 + 1) (zsc σ)) (h2 : vp_in (v3 + 2) (zsc σ)) (hK : ∀ s, zJ s → zKpp σ s → zE true (d + 16) kc ks M_L_law 2116 [some (.inr (.inr (1, 0))), some (.inr (.inr (6, 0))), some (.inr (.inr (54, 0))), some (.inl v3)] [] s Q) : zE true (d + 16) (16 + kc) (88 + ks) M_L_law 1352 [some (.inr (.inr (1, 0))), some (.inr (.inr (6, 0))), some (.inr (.inr (54, 0))), some (.inl v3)] [] σ Q := by
  refine T_L_law_1352 (k1 := 16) (m1 := 88) ⟨h1, h2, zCi.mo (G_mover (d := d + 11) (d2 := d + 12) (K := fun x y s => ((x = y) → zE true (d + 16) kc ks M_L_law 2116 [some (.inr (.inr (1, 0))), some (.inr (.inr (6, 0))), some (.inr (.inr (54, 0))), some (.inl v3)] [] s Q) ∧ (¬ (x = y) → Q (some (.inl 0)) s)) hJ _ _ (fun x s j k => ⟨fun _ => hK s j k, fun q => absurd rfl q⟩)) (fun x s ⟨k, h⟩ => ?_)⟩
  simp only [k.1, k.2]
  exact ⟨h1, h2, h⟩
theorem C_1385 (hJ : zJ σ) (h1 : vp_in (v3 + 1) (zsc σ)) (h2 : vp_in (v3 + 2) (zsc σ)) (hK : ∀ s, zJ s → zKpp σ s → zE true (d + 16) kc ks M_L_law 2116 [some (.inr (.inr (1, 0))), some (.inr (.inr (6, 0))), some (.inr (.inr (54, 0))), some (.inl v3)] [] s Q) : zE true (d + 16) kc ks M_L_law 1385 [some (.inr (.inr (1, 0))), some (.inr (.inr (6, 0))), some (.inr (.inr (54, 0))), some (.inl v3)] [] σ Q := by
  refine T_L_law_1385 ⟨h1, h2, zCi.mo (G_tick (d := d + 11) (d2 := d + 12) (K := fun x y s => ((x = y) → zE true (d + 16) kc ks M_L_law 2116 [some (.inr (.inr (1, 0))), some (.inr (.inr (6, 0))), some (.inr (.inr (54, 0))), some (.inl v3)] [] s Q) ∧ (¬ (x = y) → Q (some (.inl 0)) s)) hJ _ _ (fun x s j k => ⟨fun _ => hK s j k, fun q => absurd rfl q⟩)) (fun x s ⟨k, h⟩ => ?_)⟩
  simp only [k.1, k.2]
  exact ⟨h1, h2, h⟩
theorem C_1418 (hJ : zJ σ) (h1 : vp_in (v3 + 1) (zsc σ)) (hK : ∀ s, zJ s → zKpp σ s → zE true (d + 16) kc ks M_L_law 2116 [some (.inr (.inr (1, 0))), some (.inr (.inr (6, 0))), some (.inr (.inr (54, 0))), some (.inl v3)] [] s Q) : zE true (d + 16) kc ks M_L_law 1418 [some (.inr (.inr (1, 0))), some (.inr (.inr (6, 0))), some (.inr (.inr (54, 0))), some (.inl v3)] [] σ Q := by
  refine T_L_law_1418 ⟨h1, zCl.mo (G_ways (d := d + 8) (d2 := d + 4) (L := fun x y s => ((lg_cmp x y = 0) → zE true (d + 16) kc ks M_L_law 2116 [some (.inr (.inr (1, 0))), some (.inr (.inr (6, 0))), some (.inr (.inr (54, 0))), some (.inl v3)] [] s Q) ∧ (¬ (lg_cmp x y = 0) → Q (some (.inl 0)) s)) hJ _ (fun x s j k => ⟨fun _ => hK s j k, fun q => absurd (lg_self x) q⟩)) (fun x s ⟨k, h⟩ => ?_)⟩
  simp only [k.1, k.2]
  exact ⟨h1, h⟩
theorem C_1442 (hJ : zJ σ) (h1 : vp_in (v3 + 1) (zsc σ)) (h2 : vp_in (v3 + 2) (zsc σ)) (h3 : vp_in (v3 + 3) (zsc σ)) (h4 : vp_in (v3 + 4) (zsc σ)) (hK : ∀ s, zJ s → zKpp σ s → zE true (d + 16) kc ks M_L_law 2116 [some (.inr (.inr (1, 0))), some (.inr (.inr (6, 0))), some (.inr (.inr (54, 0))), some (.inl v3)] [] s Q) : zE true (d + 16) kc ks M_L_law 1442 [some (.inr (.inr (1, 0))), some (.inr (.inr (6, 0))), some (.inr (.inr (54, 0))), some (.inl v3)] [] σ Q := by
  refine T_L_law_1442 ⟨h1, h2, h3, h4, zCi.mo (G_way (d := d + 8) (d2 := d + 4) (K := fun x y s => ((x = y) → zE true (d + 16) kc ks M_L_law 2116 [some (.inr (.inr (1, 0))), some (.inr (.inr (6, 0))), some (.inr (.inr (54, 0))), some (.inl v3)] [] s Q) ∧ (¬ (x = y) → Q (some (.inl 0)) s)) hJ _ _ _ (fun x s j k => ⟨fun _ => hK s j k, fun q => absurd rfl q⟩)) (fun x s ⟨k, h⟩ => ?_)⟩
  simp only [k.1, k.2]
  exact ⟨h1, h2, h3, h4, h⟩
theorem C_1515 (hJ : zJ σ) (h1 : vp_in (v3 + 1) (zsc σ)) (h2 : vp_in (v3 + 2) (zsc σ)) (hK : ∀ s, zJ s → zKpp σ s → zE true (d + 16) kc ks M_L_law 2116 [some (.inr (.inr (1, 0))), some (.inr (.inr (6, 0))), some (.inr (.inr (54, 0))), some (.inl v3)] [] s Q) : zE true (d + 16) kc ks M_L_law 1515 [some (.inr (.inr (1, 0))), some (.inr (.inr (6, 0))), some (.inr (.inr (54, 0))), some (.inl v3)] [] σ Q := by
  refine T_L_law_1515 ⟨h1, h2, fun y hx => zCi.mo (G_trust (d := d + 12) (d2 := d + 12) (K := fun x y s => ((x = y) → zE true (d + 16) kc ks M_L_law 2116 [some (.inr (.inr (1, 0))), some (.inr (.inr (6, 0))), some (.inr (.inr (54, 0))), some (.inl v3)] [] s Q) ∧ (¬ (x = y) → Q (some (.inl 0)) s)) hJ _ _ (b01 hx) (fun x s j k => ⟨fun _ => hK s j k, fun q => absurd rfl q⟩)) (fun x s ⟨k, h⟩ => ?_)⟩
  simp only [k.1, k.2]
  refine ⟨h1, h2, fun w hw => ?_⟩
  rw [← hx] at hw
  rw [hw]
  exact h
theorem C_1564 (hJ : zJ σ) (h1 : vp_in (v3 + 1) (zsc σ)) (hK : ∀ s, zJ s → zKpp σ s → zE true (d + 16) kc ks M_L_law 2116 [some (.inr (.inr (1, 0))), some (.inr (.inr (6, 0))), some (.inr (.inr (54, 0))), some (.inl v3)] [] s Q) : zE true (d + 16) kc ks M_L_law 1564 [some (.inr (.inr (1, 0))), some (.inr (.inr (6, 0))), some (.inr (.inr (54, 0))), some (.inl v3)] [] σ Q := by
  refine T_L_law_1564 ⟨h1, zCi.mo (G_liars (d := d + 7) (d2 := d + 5) (K := fun x y s => ((x = y) → zE true (d + 16) kc ks M_L_law 2116 [some (.inr (.inr (1, 0))), some (.inr (.inr (6, 0))), some (.inr (.inr (54, 0))), some (.inl v3)] [] s Q) ∧ (¬ (x = y) → Q (some (.inl 0)) s)) hJ _ (fun x s j k => ⟨fun _ => hK s j k, fun q => absurd rfl q⟩)) (fun x s ⟨k, h⟩ => ?_)⟩
  simp only [k.1, k.2]
  exact ⟨h1, h⟩
theorem C_1587 (hJ : zJ σ) (h1 : vp_in (v3 + 1) (zsc σ)) (hK : ∀ s, zJ s → zKpp σ s → zE true (d + 16) kc ks M_L_law 2116 [some (.inr (.inr (1, 0))), some (.inr (.inr (6, 0))), some (.inr (.inr (54, 0))), some (.inl v3)] [] s Q) : zE true (d + 16) kc ks M_L_law 1587 [some (.inr (.inr (1, 0))), some (.inr (.inr (6, 0))), some (.inr (.inr (54, 0))), some (.inl v3)] [] σ Q := by
  refine T_L_law_1587 ⟨h1, zCi.mo (G_lies (d := d + 7) (d2 := d + 5) (K := fun x y s => ((x = y) → zE true (d + 16) kc ks M_L_law 2116 [some (.inr (.inr (1, 0))), some (.inr (.inr (6, 0))), some (.inr (.inr (54, 0))), some (.inl v3)] [] s Q) ∧ (¬ (x = y) → Q (some (.inl 0)) s)) hJ _ (fun x s j k => ⟨fun _ => hK s j k, fun q => absurd rfl q⟩)) (fun x s ⟨k, h⟩ => ?_)⟩
  simp only [k.1, k.2]
  exact ⟨h1, h⟩
theorem C_1610 (hJ : zJ σ) (h1 : vp_in (v3 + 1) (zsc σ)) (hK : ∀ s, zJ s → zKpp σ s → zE true (d + 16) kc ks M_L_law 2116 [some (.inr (.inr (1, 0))), some (.inr (.inr (6, 0))), some (.inr (.inr (54, 0))), some (.inl v3)] [] s Q) : zE true (d + 16) kc ks M_L_law 1610 [some (.inr (.inr (1, 0))), some (.inr (.inr (6, 0))), some (.inr (.inr (54, 0))), some (.inl v3)] [] σ Q := by
  refine T_L_law_1610 ⟨h1, zCi.mo (G_keep (d := d + 13) (d2 := d + 13) (K := fun x y s => ((x = y) → zE true (d + 16) kc ks M_L_law 2116 [some (.inr (.inr (1, 0))), some (.inr (.inr (6, 0))), some (.inr (.inr (54, 0))), some (.inl v3)] [] s Q) ∧ (¬ (x = y) → Q (some (.inl 0)) s)) hJ _ (fun x s j k => ⟨fun _ => hK s j k, fun q => absurd rfl q⟩)) (fun x s ⟨k, h⟩ => ?_)⟩
  simp only [k.1, k.2]
  exact ⟨h1, h⟩
theorem C_1633 (hJ : zJ σ) (h1 : vp_in (v3 + 1) (zsc σ)) (hK : ∀ s, zJ s → zKpp σ s → zE true (d + 16) kc ks M_L_law 2116 [some (.inr (.inr (1, 0))), some (.inr (.inr (6, 0))), some (.inr (.inr (54, 0))), some (.inl v3)] [] s Q) : zE true (d + 16) kc ks M_L_law 1633 [some (.inr (.inr (1, 0))), some (.inr (.inr (6, 0))), some (.inr (.inr (54, 0))), some (.inl v3)] [] σ Q := by
  refine T_L_law_1633 ⟨h1, zCi.mo (G_back (d := d + 11) (d2 := d + 12) (K := fun x y s => ((x = y) → zE true (d + 16) kc ks M_L_law 2116 [some (.inr (.inr (1, 0))), some (.inr (.inr (6, 0))), some (.inr (.inr (54, 0))), some (.inl v3)] [] s Q) ∧ (¬ (x = y) → Q (some (.inl 0)) s)) hJ _ (fun x s j k => ⟨fun _ => hK s j k, fun q => absurd rfl q⟩)) (fun x s ⟨k, h⟩ => ?_)⟩
  simp only [k.1, k.2]
  exact ⟨h1, h⟩
theorem C_1656 (hJ : zJ σ) (h1 : vp_in (v3 + 1) (zsc σ)) (h2 : vp_in (v3 + 2) (zsc σ)) (h3 : vp_in (v3 + 3) (zsc σ)) (hK : ∀ s, zJ s → zKpp σ s → zE true (d + 16) kc ks M_L_law 2116 [some (.inr (.inr (1, 0))), some (.inr (.inr (6, 0))), some (.inr (.inr (54, 0))), some (.inl v3)] [] s Q) : zE true (d + 16) kc ks M_L_law 1656 [some (.inr (.inr (1, 0))), some (.inr (.inr (6, 0))), some (.inr (.inr (54, 0))), some (.inl v3)] [] σ Q := by
  refine T_L_law_1656 ⟨h1, h2, h3, zCi.mo (G_hold (d := d + 12) (d2 := d + 12) (K := fun x y s => ((x = y) → zE true (d + 16) kc ks M_L_law 2116 [some (.inr (.inr (1, 0))), some (.inr (.inr (6, 0))), some (.inr (.inr (54, 0))), some (.inl v3)] [] s Q) ∧ (¬ (x = y) → Q (some (.inl 0)) s)) hJ _ _ _ (fun x s j k => ⟨fun _ => hK s j k, fun q => absurd rfl q⟩)) (fun x s ⟨k, h⟩ => ?_)⟩
  simp only [k.1, k.2]
  exact ⟨h1, h2, h3, h⟩
theorem C_1699 (hJ : zJ σ) (h1 : vp_in (v3 + 1) (zsc σ)) (hK : ∀ s, zJ s → zKpp σ s → zE true (d + 16) kc ks M_L_law 2116 [some (.inr (.inr (1, 0))), some (.inr (.inr (6, 0))), some (.inr (.inr (54, 0))), some (.inl v3)] [] s Q) : zE true (d + 16) kc ks M_L_law 1699 [some (.inr (.inr (1, 0))), some (.inr (.inr (6, 0))), some (.inr (.inr (54, 0))), some (.inl v3)] [] σ Q := by
  refine T_L_law_1699 ⟨h1, zCi.mo (G_loose (d := d + 13) (d2 := d + 12) (K := fun x y s => ((x = y) → zE true (d + 16) kc ks M_L_law 2116 [some (.inr (.inr (1, 0))), some (.inr (.inr (6, 0))), some (.inr (.inr (54, 0))), some (.inl v3)] [] s Q) ∧ (¬ (x = y) → Q (some (.inl 0)) s)) hJ _ (fun x s j k => ⟨fun _ => hK s j k, fun q => absurd rfl q⟩)) (fun x s ⟨k, h⟩ => ?_)⟩
  simp only [k.1, k.2]
  exact ⟨h1, h⟩
theorem C_1722 (hJ : zJ σ) (h1 : vp_in (v3 + 1) (zsc σ)) (h2 : vp_in (v3 + 2) (zsc σ)) (hK : ∀ s, zJ s → zKpp σ s → zE true (d + 16) kc ks M_L_law 2116 [some (.inr (.inr (1, 0))), some (.inr (.inr (6, 0))), some (.inr (.inr (54, 0))), some (.inl v3)] [] s Q) : zE true (d + 16) kc ks M_L_law 1722 [some (.inr (.inr (1, 0))), some (.inr (.inr (6, 0))), some (.inr (.inr (54, 0))), some (.inl v3)] [] σ Q := by
  refine T_L_law_1722 ⟨h1, h2, zCi.mo (G_as (d := d + 13) (d2 := d + 12) (K := fun x y s => ((x = y) → zE true (d + 16) kc ks M_L_law 2116 [some (.inr (.inr (1, 0))), some (.inr (.inr (6, 0))), some (.inr (.inr (54, 0))), some (.inl v3)] [] s Q) ∧ (¬ (x = y) → Q (some (.inl 0)) s)) hJ _ _ (fun x s j k => ⟨fun _ => hK s j k, fun q => absurd rfl q⟩)) (fun x s ⟨k, h⟩ => ?_)⟩
  simp only [k.1, k.2]
  exact ⟨h1, h2, h⟩
theorem C_1755 (hJ : zJ σ) (h1 : vp_in (v3 + 1) (zsc σ)) (h2 : vp_in (v3 + 2) (zsc σ)) (hK : ∀ s, zJ s → zKpp σ s → zE true (d + 16) kc ks M_L_law 2116 [some (.inr (.inr (1, 0))), some (.inr (.inr (6, 0))), some (.inr (.inr (54, 0))), some (.inl v3)] [] s Q) : zE true (d + 16) kc ks M_L_law 1755 [some (.inr (.inr (1, 0))), some (.inr (.inr (6, 0))), some (.inr (.inr (54, 0))), some (.inl v3)] [] σ Q := by
  refine T_L_law_1755 ⟨h1, h2, zCi.mo (G_tell (d := d + 8) (d2 := d + 12) (K := fun x y s => ((x = y) → zE true (d + 16) kc ks M_L_law 2116 [some (.inr (.inr (1, 0))), some (.inr (.inr (6, 0))), some (.inr (.inr (54, 0))), some (.inl v3)] [] s Q) ∧ (¬ (x = y) → Q (some (.inl 0)) s)) hJ _ _ (fun x s j k => ⟨fun _ => hK s j k, fun q => absurd rfl q⟩)) (fun x s ⟨k, h⟩ => ?_)⟩
  simp only [k.1, k.2]
  exact ⟨h1, h2, h⟩
theorem C_1788 (hJ : zJ σ) (h1 : vp_in (v3 + 1) (zsc σ)) (h2 : vp_in (v3 + 2) (zsc σ)) (hK : ∀ s, zJ s → zKpp σ s → zE true (d + 16) kc ks M_L_law 2116 [some (.inr (.inr (1, 0))), some (.inr (.inr (6, 0))), some (.inr (.inr (54, 0))), some (.inl v3)] [] s Q) : zE true (d + 16) kc ks M_L_law 1788 [some (.inr (.inr (1, 0))), some (.inr (.inr (6, 0))), some (.inr (.inr (54, 0))), some (.inl v3)] [] σ Q := by
  refine T_L_law_1788 ⟨h1, h2, zCi.mo (G_greet (d := d + 10) (d2 := d + 12) (K := fun x y s => ((x = y) → zE true (d + 16) kc ks M_L_law 2116 [some (.inr (.inr (1, 0))), some (.inr (.inr (6, 0))), some (.inr (.inr (54, 0))), some (.inl v3)] [] s Q) ∧ (¬ (x = y) → Q (some (.inl 0)) s)) hJ _ _ (fun x s j k => ⟨fun _ => hK s j k, fun q => absurd rfl q⟩)) (fun x s ⟨k, h⟩ => ?_)⟩
  simp only [k.1, k.2]
  exact ⟨h1, h2, h⟩
theorem C_1821 (hJ : zJ σ) (h1 : vp_in (v3 + 1) (zsc σ)) (h2 : vp_in (v3 + 2) (zsc σ)) (h3 : vp_in (v3 + 3) (zsc σ)) (hK : ∀ s, zJ s → zKpp σ s → zE true (d + 16) kc ks M_L_law 2116 [some (.inr (.inr (1, 0))), some (.inr (.inr (6, 0))), some (.inr (.inr (54, 0))), some (.inl v3)] [] s Q) : zE true (d + 16) kc ks M_L_law 1821 [some (.inr (.inr (1, 0))), some (.inr (.inr (6, 0))), some (.inr (.inr (54, 0))), some (.inl v3)] [] σ Q := by
  refine T_L_law_1821 ⟨h1, h2, h3, zCi.mo (G_sheet (d := d + 12) (d2 := d + 12) (K := fun x y s => ((x = y) → zE true (d + 16) kc ks M_L_law 2116 [some (.inr (.inr (1, 0))), some (.inr (.inr (6, 0))), some (.inr (.inr (54, 0))), some (.inl v3)] [] s Q) ∧ (¬ (x = y) → Q (some (.inl 0)) s)) hJ _ _ _ (fun x s j k => ⟨fun _ => hK s j k, fun q => absurd rfl q⟩)) (fun x s ⟨k, h⟩ => ?_)⟩
  simp only [k.1, k.2]
  exact ⟨h1, h2, h3, h⟩
theorem C_1864 (hJ : zJ σ) (h1 : vp_in (v3 + 1) (zsc σ)) (hK : ∀ s, zJ s → zKpp σ s → zE true (d + 16) kc ks M_L_law 2116 [some (.inr (.inr (1, 0))), some (.inr (.inr (6, 0))), some (.inr (.inr (54, 0))), some (.inl v3)] [] s Q) : zE true (d + 16) kc ks M_L_law 1864 [some (.inr (.inr (1, 0))), some (.inr (.inr (6, 0))), some (.inr (.inr (54, 0))), some (.inl v3)] [] σ Q := by
  refine T_L_law_1864 ⟨h1, zCi.mo (G_lose (d := d + 13) (d2 := d + 12) (K := fun x y s => ((x = y) → zE true (d + 16) kc ks M_L_law 2116 [some (.inr (.inr (1, 0))), some (.inr (.inr (6, 0))), some (.inr (.inr (54, 0))), some (.inl v3)] [] s Q) ∧ (¬ (x = y) → Q (some (.inl 0)) s)) hJ _ (fun x s j k => ⟨fun _ => hK s j k, fun q => absurd rfl q⟩)) (fun x s ⟨k, h⟩ => ?_)⟩
  simp only [k.1, k.2]
  exact ⟨h1, h⟩
theorem C_1887 (hJ : zJ σ) (h1 : vp_in (v3 + 1) (zsc σ)) (h2 : vp_in (v3 + 2) (zsc σ)) (h3 : vp_in (v3 + 3) (zsc σ)) (h4 : vp_in (v3 + 4) (zsc σ)) (hK : ∀ s, zJ s → zKpp σ s → zE true (d + 16) kc ks M_L_law 2116 [some (.inr (.inr (1, 0))), some (.inr (.inr (6, 0))), some (.inr (.inr (54, 0))), some (.inl v3)] [] s Q) : zE true (d + 16) kc ks M_L_law 1887 [some (.inr (.inr (1, 0))), some (.inr (.inr (6, 0))), some (.inr (.inr (54, 0))), some (.inl v3)] [] σ Q := by
  refine T_L_law_1887 ⟨h1, h2, h3, h4, zCi.mo (G_lay (d := d + 13) (d2 := d + 12) (K := fun x y s => ((x = y) → zE true (d + 16) kc ks M_L_law 2116 [some (.inr (.inr (1, 0))), some (.inr (.inr (6, 0))), some (.inr (.inr (54, 0))), some (.inl v3)] [] s Q) ∧ (¬ (x = y) → Q (some (.inl 0)) s)) hJ _ _ _ (fun x s j k => ⟨fun _ => hK s j k, fun q => absurd rfl q⟩)) (fun x s ⟨k, h⟩ => ?_)⟩
  simp only [k.1, k.2]
  exact ⟨h1, h2, h3, h4, h⟩
theorem C_1960 (hJ : zJ σ) (h1 : vp_in (v3 + 1) (zsc σ)) (h2 : vp_in (v3 + 2) (zsc σ)) (h3 : vp_in (v3 + 3) (zsc σ)) (hK : ∀ s, zJ s → zKpp σ s → zE true (d + 16) kc ks M_L_law 2116 [some (.inr (.inr (1, 0))), some (.inr (.inr (6, 0))), some (.inr (.inr (54, 0))), some (.inl v3)] [] s Q) : zE true (d + 16) kc ks M_L_law 1960 [some (.inr (.inr (1, 0))), some (.inr (.inr (6, 0))), some (.inr (.inr (54, 0))), some (.inl v3)] [] σ Q := by
  refine T_L_law_1960 ⟨h1, h2, h3, zCl.mo (G_cell (d := d + 12) (d2 := d + 12) (L := fun x y s => ((lg_cmp x y = 0) → zE true (d + 16) kc ks M_L_law 2116 [some (.inr (.inr (1, 0))), some (.inr (.inr (6, 0))), some (.inr (.inr (54, 0))), some (.inl v3)] [] s Q) ∧ (¬ (lg_cmp x y = 0) → Q (some (.inl 0)) s)) hJ _ _ _ (fun x s j k => ⟨fun _ => hK s j k, fun q => absurd (lg_self x) q⟩)) (fun x s ⟨k, h⟩ => ?_)⟩
  simp only [k.1, k.2]
  exact ⟨h1, h2, h3, h⟩
theorem C_2004 (hJ : zJ σ) (h1 : vp_in (v3 + 1) (zsc σ)) (h2 : vp_in (v3 + 2) (zsc σ)) (h3 : vp_in (v3 + 3) (zsc σ)) (h4 : vp_in (v3 + 4) (zsc σ)) (h5 : vp_in (v3 + 5) (zsc σ)) (hK : ∀ s, zJ s → zKpp σ s → zE true (d + 16) kc ks M_L_law 2116 [some (.inr (.inr (1, 0))), some (.inr (.inr (6, 0))), some (.inr (.inr (54, 0))), some (.inl v3)] [] s Q) : zE true (d + 16) kc ks M_L_law 2004 [some (.inr (.inr (1, 0))), some (.inr (.inr (6, 0))), some (.inr (.inr (54, 0))), some (.inl v3)] [] σ Q := by
  refine T_L_law_2004 ⟨h1, h2, h3, h4, h5, zCi.mo (G_copy (d := d + 13) (d2 := d + 12) (K := fun x y s => ((x = y) → zE true (d + 16) kc ks M_L_law 2116 [some (.inr (.inr (1, 0))), some (.inr (.inr (6, 0))), some (.inr (.inr (54, 0))), some (.inl v3)] [] s Q) ∧ (¬ (x = y) → Q (some (.inl 0)) s)) hJ _ _ _ _ _ (fun x s j k => ⟨fun _ => hK s j k, fun q => absurd rfl q⟩)) (fun x s ⟨k, h⟩ => ?_)⟩
  simp only [k.1, k.2]
  exact ⟨h1, h2, h3, h4, h5, h⟩
theorem C_2067 (hJ : zJ σ) (hK : ∀ s, zJ s → zKpp σ s → zE true (d + 16) kc ks M_L_law 2116 [some (.inr (.inr (1, 0))), some (.inr (.inr (6, 0))), some (.inr (.inr (54, 0))), some (.inl v3)] [] s Q) : zE true (d + 16) kc ks M_L_law 2067 [some (.inr (.inr (1, 0))), some (.inr (.inr (6, 0))), some (.inr (.inr (54, 0))), some (.inl v3)] [] σ Q := by
  refine T_L_law_2067 (zCi.mo (G_trace (d := d + 14) (d2 := d + 14) (K := fun x y s => ((x = y) → zE true (d + 16) kc ks M_L_law 2116 [some (.inr (.inr (1, 0))), some (.inr (.inr (6, 0))), some (.inr (.inr (54, 0))), some (.inl v3)] [] s Q) ∧ (¬ (x = y) → Q (some (.inl 0)) s)) hJ  (fun x s j k => ⟨fun _ => hK s j k, fun q => absurd rfl q⟩)) (fun x s ⟨k, h⟩ => ?_))
  exact h
theorem C_2080 (hJ : zJ σ) (hK : ∀ s, zJ s → zKpp σ s → zE true (d + 16) kc ks M_L_law 2116 [some (.inr (.inr (1, 0))), some (.inr (.inr (6, 0))), some (.inr (.inr (54, 0))), some (.inl v3)] [] s Q) : zE true (d + 16) kc ks M_L_law 2080 [some (.inr (.inr (1, 0))), some (.inr (.inr (6, 0))), some (.inr (.inr (54, 0))), some (.inl v3)] [] σ Q := by
  refine T_L_law_2080 (zCi.mo (G_fault (d := d + 14) (d2 := d + 14) (K := fun x y s => ((x = y) → zE true (d + 16) kc ks M_L_law 2116 [some (.inr (.inr (1, 0))), some (.inr (.inr (6, 0))), some (.inr (.inr (54, 0))), some (.inl v3)] [] s Q) ∧ (¬ (x = y) → Q (some (.inl 0)) s)) hJ  (fun x s j k => ⟨fun _ => hK s j k, fun q => absurd rfl q⟩)) (fun x s ⟨k, h⟩ => ?_))
  exact h
theorem C_2093 (hJ : zJ σ) (h1 : vp_in (v3 + 1) (zsc σ)) (hK : ∀ s, zJ s → zKpp σ s → zE true (d + 16) kc ks M_L_law 2116 [some (.inr (.inr (1, 0))), some (.inr (.inr (6, 0))), some (.inr (.inr (54, 0))), some (.inl v3)] [] s Q) : zE true (d + 16) kc ks M_L_law 2093 [some (.inr (.inr (1, 0))), some (.inr (.inr (6, 0))), some (.inr (.inr (54, 0))), some (.inl v3)] [] σ Q := by
  refine T_L_law_2093 ⟨h1, zCi.mo (G_many (d := d + 7) (d2 := d + 5) (K := fun x y s => ((x = y) → zE true (d + 16) kc ks M_L_law 2116 [some (.inr (.inr (1, 0))), some (.inr (.inr (6, 0))), some (.inr (.inr (54, 0))), some (.inl v3)] [] s Q) ∧ (¬ (x = y) → Q (some (.inl 0)) s)) hJ _ (fun x s j k => ⟨fun _ => hK s j k, fun q => absurd rfl q⟩)) (fun x s ⟨k, h⟩ => ?_)⟩
  simp only [k.1, k.2]
  exact ⟨h1, h⟩
theorem L_law_loop {L : Nat} (hL : L ≤ 3072) (hQ : ∀ s, Q (some (.inl 1)) s) : ∀ (r i : Nat) (σ : zSt), L ≤ i + 6 * r + 5 → i ≤ 4000 → zJ σ → zsc σ = L → zE true (d + 16) (16 * (r + 1)) (88 * (r + 1)) M_L_law 18 [some (.inr (.inr (1, 0))), some (.inr (.inr (6, 0))), some (.inr (.inr (54, 0))), some (.inl (nI i))] [] σ Q := by
  have hlt : ∀ i, i ≤ 4000 → ((nI L - 6) < nI i ↔ L < i + 6) := fun i hi => by
    rw [Int32.lt_iff_toInt_lt, nI_toInt (by omega)]
    by_cases h : 6 ≤ L
    · rw [show (nI L - 6 : Int32) = nI (L - 6) from nI_sub h, nI_toInt (by omega)]
      omega
    · have tb : ∀ L, L < 6 → (nI L - 6).toInt < 0 := by decide
      have := tb L (by omega)
      constructor
      · intro; omega
      · intro; omega
  intro r
  induction r with
  | zero =>
    intro i σ h1 h2 hJ hs
    refine (T_L_law_18 (k1 := 16) (m1 := 88) (kc := 0) (ks := 0) ⟨fun _ => hQ σ, fun h => absurd ?_ h⟩ : _)
    rw [hs, hlt i h2]
    omega
  | succ r ih =>
    intro i σ h1 h2 hJ hs
    rw [show 16 * (r + 1 + 1) = 16 + 16 * (r + 1) by omega, show 88 * (r + 1 + 1) = 88 + 88 * (r + 1) by omega]
    refine T_L_law_18 (k1 := 16) (m1 := 88) ⟨fun _ => hQ σ, fun h => ?_⟩
    rw [hs, hlt i h2] at h
    have h6 : i + 6 ≤ L := by omega
    have hp : ∀ e, e < 6 → vp_in (nI i + nI e) (zsc σ) := fun e he => by
      rw [hs, nI_add]
      exact nI_in (by omega) (by omega)
    have hK : ∀ s, zJ s → zKpp σ s → zE true (d + 16) (16 * (r + 1)) (88 * (r + 1)) M_L_law 2116 [some (.inr (.inr (1, 0))), some (.inr (.inr (6, 0))), some (.inr (.inr (54, 0))), some (.inl (nI i))] [] s Q := fun s j k => T_L_law_2116 (by
      rw [show (nI i + 6 : Int32) = nI (i + 6) from nI_add i 6]
      exact ih (i + 6) s (by omega) (by omega) j (k.1.trans hs))
    have p1 : vp_in (nI i + 1) (zsc σ) := hp 1 (by omega)
    have p2 : vp_in (nI i + 2) (zsc σ) := hp 2 (by omega)
    have p3 : vp_in (nI i + 3) (zsc σ) := hp 3 (by omega)
    have p4 : vp_in (nI i + 4) (zsc σ) := hp 4 (by omega)
    have p5 : vp_in (nI i + 5) (zsc σ) := hp 5 (by omega)
    refine ⟨by rw [hs]; exact nI_in (by omega) (by omega), fun _ => (C_260 hJ p1 p2 hK).room (by omega) (by omega),
      fun _ => (C_293 hJ p1 p2 hK).room (by omega) (by omega),
      fun _ => (C_342 hJ p1 p2 p3 hK).room (by omega) (by omega),
      fun _ => (C_385 hJ p1 p2 hK).room (by omega) (by omega),
      fun _ => (C_418 hJ p1 p2 p3 p4 p5 hK).room (by omega) (by omega),
      fun _ => (C_481 hJ p1 p2 hK).room (by omega) (by omega),
      fun _ => (C_514 hJ p1 p2 p3 hK).room (by omega) (by omega),
      fun _ => (C_557 hJ p1 hK).room (by omega) (by omega),
      fun _ => (C_581 hJ p1 p2 p3 hK).room (by omega) (by omega),
      fun _ => (C_624 hJ p1 p2 p3 p4 p5 hK).room (by omega) (by omega),
      fun _ => (C_687 hJ p1 p2 p3 p4 hK).room (by omega) (by omega),
      fun _ => (C_740 hJ p1 p2 hK).room (by omega) (by omega),
      fun _ => (C_789 hJ p1 p2 hK).room (by omega) (by omega),
      fun _ => (C_822 hJ p1 p2 p3 hK).room (by omega) (by omega),
      fun _ => (C_865 hJ hK).room (by omega) (by omega),
      fun _ => (C_878 hJ p1 hK).room (by omega) (by omega),
      fun _ => (C_901 hJ p1 hK).room (by omega) (by omega),
      fun _ => (C_940 hJ p1 hK).room (by omega) (by omega),
      fun _ => (C_963 hJ hK).room (by omega) (by omega),
      fun _ => (C_976 hJ p1 p2 hK).room (by omega) (by omega),
      fun _ => (C_1009 hJ p1 hK).room (by omega) (by omega),
      fun _ => (C_1032 hJ p1 hK).room (by omega) (by omega),
      fun _ => (C_1055 hJ p1 p2 p3 p4 hK).room (by omega) (by omega),
      fun _ => (C_1108 hJ p1 p2 hK).room (by omega) (by omega),
      fun _ => (C_1141 hJ p1 p2 hK).room (by omega) (by omega),
      fun _ => (C_1174 hJ p1 p2 hK).room (by omega) (by omega),
      fun _ => (C_1207 hJ p1 p2 hK).room (by omega) (by omega),
      fun _ => (C_1240 hJ hK).room (by omega) (by omega),
      fun _ => (C_1253 hJ p1 hK).room (by omega) (by omega),
      fun _ => (C_1276 hJ p1 p2 p3 hK).room (by omega) (by omega),
      fun _ => (C_1319 hJ p1 p2 hK).room (by omega) (by omega),
      fun _ => (C_1352 hJ p1 p2 hK).room (by omega) (by omega),
      fun _ => (C_1385 hJ p1 p2 hK).room (by omega) (by omega),
      fun _ => (C_1418 hJ p1 hK).room (by omega) (by omega),
      fun _ => (C_1442 hJ p1 p2 p3 p4 hK).room (by omega) (by omega),
      fun _ => (C_1515 hJ p1 p2 hK).room (by omega) (by omega),
      fun _ => (C_1564 hJ p1 hK).room (by omega) (by omega),
      fun _ => (C_1587 hJ p1 hK).room (by omega) (by omega),
      fun _ => (C_1610 hJ p1 hK).room (by omega) (by omega),
      fun _ => (C_1633 hJ p1 hK).room (by omega) (by omega),
      fun _ => (C_1656 hJ p1 p2 p3 hK).room (by omega) (by omega),
      fun _ => (C_1699 hJ p1 hK).room (by omega) (by omega),
      fun _ => (C_1722 hJ p1 p2 hK).room (by omega) (by omega),
      fun _ => (C_1755 hJ p1 p2 hK).room (by omega) (by omega),
      fun _ => (C_1788 hJ p1 p2 hK).room (by omega) (by omega),
      fun _ => (C_1821 hJ p1 p2 p3 hK).room (by omega) (by omega),
      fun _ => (C_1864 hJ p1 hK).room (by omega) (by omega),
      fun _ => (C_1887 hJ p1 p2 p3 p4 hK).room (by omega) (by omega),
      fun _ => (C_1960 hJ p1 p2 p3 hK).room (by omega) (by omega),
      fun _ => (C_2004 hJ p1 p2 p3 p4 p5 hK).room (by omega) (by omega),
      fun _ => (C_2067 hJ hK).room (by omega) (by omega),
      fun _ => (C_2080 hJ hK).room (by omega) (by omega),
      fun _ => (C_2093 hJ p1 hK).room (by omega) (by omega), fun _ _ _ _ _ _ _ _ _ _ _ _ _ _ _ _ _ _ _ _ _ _ _ _ _ _ _ _ _ _ _ _ _ _ _ _ _ _ _ _ _ _ _ _ _ _ _ _ _ _ _ _ _ => (hK σ hJ zKpp.rf).room (by omega) (by omega)⟩
end zLc
