/-! what is told of a thing (class) -/
section zCm2
variable {d kc ks : Nat} {σ : zSt} {A : zAb} {Q : Option zV → zSt → Prop}
theorem zlowZ {p : Nat → Bool} : (if ¬ lg_cmp (zset p 64) 0 = 0 then zbc64 ((zset p 64 &&& -zset p 64) - 1) else (-9 : Int32)) = iI (zfst p 64) := by
  by_cases z : ∃ i, i < 64 ∧ p i = true
  · obtain ⟨i, h1, h2, h3⟩ := fb_first (p := fun i => p i = true) z
    have h4 : ∀ j, j < i → p j = false := fun j hj => by simpa using h3 j hj
    have hne : ¬ zset p 64 = 0 := fun q => by
      have := zset_0.mp q i h1
      rw [h2] at this
      cases this
    rw [if_pos (by rw [lg_cmp_0]; exact hne), zfst_some h2 h4 h1, iI_nat]
    exact zlow h1 (by rw [tb_set h1]; exact h2) (fun j hj => by rw [tb_set (by omega)]; exact h4 j hj)
  · have h0 : ∀ i, i < 64 → p i = false := fun i hi => by
      by_cases q : p i = true
      · exact absurd ⟨i, hi, q⟩ z
      · simpa using q
    rw [if_neg (by rw [lg_cmp_0]; exact fun q => q (zset_0.mpr h0)), zfst_none.mpr h0]
    rfl
theorem O_X11_about {K : Int32 → zSt → Prop} (hW : zWf A) (hR : zRD A σ 0) (hC : zCR A σ) (a e : Int32) (hno : ¬ tI A a = true → K (-1) σ) (hyes : ∀ t, t < aN A → a = nI t → ∀ σ', zOnly zQr σ σ' → σ'.2.2.2 = σ.2.2.2 → zCR A σ' → K (abV A t e) σ') : zCi true (d + 8) 0 0 M_X11_about [.inr (.inr (6, 0)), .inl (a), .inl (e)] σ K := by
  have hN : aN A ≤ 24 := hW.1.2.2.2.2.1
  have hM : aM A ≤ 60 := hW.1.2.2.2.2.2.1
  refine zC_intro pl_X11 (Nat.le_of_ble_eq_true rfl) (T_X11_about_0 (S_X1_isThing hW hR a ⟨fun h => ?_, fun h => ⟨_, rfl, hno (zb_0.mp h)⟩⟩))
  rw [zb_0, Decidable.not_not] at h
  obtain ⟨t, ht, rfl⟩ := tI_nI h
  refine S_X11_narrowed hW hR hC (fun σ1 o1 h1 c1 y1 _ => ⟨rfl, S_X6_cellsOf hW y1 ht ?_⟩)
  have hR1 : zRD A σ1 0 := hR.only o1 h1 (fun c j k h => by unfold zBD at h; unfold zQr; omega)
  obtain ⟨⟨n0, q0, hT⟩, r2, r3⟩ := hR1.2.1 t ht
  obtain ⟨p0, p1, p2, p3, p4, p5⟩ := hT
  have h0 := hyes t ht rfl σ1 o1 h1 c1
  have i24 : vp_in (nI t) 24 := nI_in (by omega) (by omega)
  have ec : (nI t).toNatClampNeg = t := nI_clamp (by omega)
  have q0' : zgr σ1 23 0 (nI t).toNatClampNeg = (16, n0) := by rw [ec]; exact q0
  refine ⟨fun z => ⟨i24, n0, q0', _, rfl, ?_⟩, fun z => S_X1_toldCells hW hR1 ht ⟨_, rfl, ?_⟩, fun z => ⟨_, rfl, ?_⟩, fun z x hx => ⟨_, rfl, ?_⟩, fun z => S_X1_measuresOf hW hR1 (show t < 2 ^ 31 by omega) ⟨_, rfl, ?_⟩, fun z => ⟨i24, _, rfl, ?_⟩, fun z x hx => ⟨_, rfl, ?_⟩, fun z => ⟨i24, n0, q0', _, rfl, ?_⟩, fun z => ⟨i24, n0, q0', _, rfl, ?_⟩, fun z0 z1 z2 z3 z4 z5 z6 z7 z8 => ⟨_, rfl, ?_⟩⟩
  · subst z; rw [p2]; exact h0
  · subst z
    rw [zbc64_ct, fb_ct_cong (q := atold A t) (fun i hi => tb_set hi)]
    exact h0
  · subst z
    rw [zbc64_ct, fb_ct_cong (q := gB A (mO A) t) (fun i hi => tb_set hi)]
    exact h0
  · subst z
    rw [hx, zlowZ]
    exact h0
  · subst z
    have e4 : zbc64 (zset (fun m => decide (m < aM A) && msOf A t m) 64 &&& zgl σ1 7 0 10) = nI (onV A t) := by
      rw [hR1.1.2.2.2.2.2.2.1, zbc64_ct]
      congr 1
      rw [fb_ct_cong (q := fun m => decide (m < aM A) && (msOf A t m && mO A m)) (fun i hi => by
        rw [tb_and, tb_set hi, tb_set hi]
        cases decide (i < aM A) <;> simp), show 64 = aM A + (64 - aM A) by omega, fb_ct_split, fb_ct_zero (p := fun k => decide (aM A + k < aM A) && (msOf A t (aM A + k) && mO A (aM A + k))) |>.mpr (fun i hi => by rw [show decide (aM A + i < aM A) = false from decide_eq_false (by omega)]; rfl), Nat.add_zero]
      unfold onV
      exact fb_ct_cong (fun m hm => by
        unfold onP msOf
        rw [decide_eq_true hm, Bool.true_and, Bool.and_comm])
    rw [e4]
    exact h0
  · subst z
    rw [ec, r3]
    exact h0
  · subst z
    rw [hx, zb_of0 (P := aTr A t = true) (by rw [hR1.1.2.2.2.2.1, yh_b (by omega), zb_0, decide_eq_true ht, Bool.true_and])]
    exact h0
  · subst z; rw [p4]; exact h0
  · subst z; rw [p5]; exact h0
  · unfold abV at h0
    rw [if_neg z0, if_neg z1, if_neg z2, if_neg z3, if_neg z4, if_neg z5, if_neg z6, if_neg z7, if_neg z8] at h0
    exact h0
theorem L_X6_oneCell (hW : zWf A) (hR : zRD A σ 0) (hY : zRy A σ) (hQ : Q (some (.inl (nI (fb_ct (fun t => decide (fb_ct (gB A (mO A) t) 64 = 1)) (aN A))))) σ) : ∀ (n k : Nat), k + n = aN A → zE true (d + 2) kc ks M_X6_thingsOnOneCell 4 [some (.inr (.inr (10, 0))), some (.inl (nI (fb_ct (fun t => decide (fb_ct (gB A (mO A) t) 64 = 1)) k))), some (.inl (nI k))] [] σ Q := by
  have hN : aN A ≤ 24 := hW.1.2.2.2.2.1
  intro n
  induction n with
  | zero =>
    intro k hk
    have : k = aN A := by omega
    subst this
    exact T_X6_thingsOnOneCell_4 ⟨fun _ => hQ, fun g => absurd (by rw [zrd_nT hR]; exact Int32.le_refl _) g⟩
  | succ n ih =>
    intro k hk
    refine T_X6_thingsOnOneCell_4 ⟨fun g => ?_, fun _ => ⟨nI_in (by omega) (by omega), fun x hx => ?_⟩⟩
    · rw [zrd_nT hR, nI_leI (by omega) (by omega)] at g
      omega
    · have cb := fb_ct_le (gB A (mO A) k) 64
      have c1 : (nI (fb_ct (gB A (mO A) k) 64) = 1) ↔ fb_ct (gB A (mO A) k) 64 = 1 := nI_eq (b := 1) (by omega) (by omega)
      rw [nI_clamp (show k < 2 ^ 31 by omega), hY.2.1 k (by omega), zbc64_ct, fb_ct_cong (q := gB A (mO A) k) (fun i hi => tb_set hi)] at hx
      have e : nI (fb_ct (fun t => decide (fb_ct (gB A (mO A) t) 64 = 1)) k) + x = nI (fb_ct (fun t => decide (fb_ct (gB A (mO A) t) 64 = 1)) (k + 1)) := by
        rw [fb_ct_succ, hx]
        by_cases z : fb_ct (gB A (mO A) k) 64 = 1
        · rw [if_neg (fun q => q (c1.mpr z)), if_pos (decide_eq_true z), nI_succ]
        · rw [if_pos (fun q => z (c1.mp q)), if_neg (by rw [decide_eq_true_eq]; exact z)]
          exact Int32.add_zero _
      rw [e, ← nI_succ]
      exact ih (k + 1) (by omega)
theorem S_X6_thingsOnOneCell {K : Int32 → zSt → Prop} (hW : zWf A) (hR : zRD A σ 0) (hY : zRy A σ) (hK : K (nI (fb_ct (fun t => decide (fb_ct (gB A (mO A) t) 64 = 1)) (aN A))) σ) : zCi true (d + 2) 0 0 M_X6_thingsOnOneCell [.inr (.inr (10, 0))] σ K :=
  zC_intro pl_X6 (Nat.le_of_ble_eq_true rfl) (T_X6_thingsOnOneCell_0 (L_X6_oneCell hW hR hY ⟨_, rfl, hK⟩ (aN A) 0 (by omega)))
theorem L_X6_sumCells (hW : zWf A) (hR : zRD A σ 0) (hY : zRy A σ) (hQ : Q (some (.inl (nI (fb_sm (fun t => fb_ct (gB A (mO A) t) 64) (aN A))))) σ) : ∀ (n k : Nat), k + n = aN A → zE true (d + 2) kc ks M_X6_sumOfCells 4 [some (.inr (.inr (10, 0))), some (.inl (nI (fb_sm (fun t => fb_ct (gB A (mO A) t) 64) k))), some (.inl (nI k))] [] σ Q := by
  have hN : aN A ≤ 24 := hW.1.2.2.2.2.1
  intro n
  induction n with
  | zero =>
    intro k hk
    have : k = aN A := by omega
    subst this
    exact T_X6_sumOfCells_4 ⟨fun _ => hQ, fun g => absurd (by rw [zrd_nT hR]; exact Int32.le_refl _) g⟩
  | succ n ih =>
    intro k hk
    refine T_X6_sumOfCells_4 ⟨fun g => ?_, fun _ => ⟨nI_in (by omega) (by omega), ?_⟩⟩
    · rw [zrd_nT hR, nI_leI (by omega) (by omega)] at g
      omega
    · rw [nI_clamp (show k < 2 ^ 31 by omega), hY.2.1 k (by omega), zbc64_ct, fb_ct_cong (q := gB A (mO A) k) (fun i hi => tb_set hi), nI_add, ← nI_succ]
      exact ih (k + 1) (by omega)
theorem S_X6_sumOfCells {K : Int32 → zSt → Prop} (hW : zWf A) (hR : zRD A σ 0) (hY : zRy A σ) (hK : K (nI (fb_sm (fun t => fb_ct (gB A (mO A) t) 64) (aN A))) σ) : zCi true (d + 2) 0 0 M_X6_sumOfCells [.inr (.inr (10, 0))] σ K :=
  zC_intro pl_X6 (Nat.le_of_ble_eq_true rfl) (T_X6_sumOfCells_0 (L_X6_sumCells hW hR hY ⟨_, rfl, hK⟩ (aN A) 0 (by omega)))
end zCm2
