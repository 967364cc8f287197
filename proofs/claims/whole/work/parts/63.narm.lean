/-! the reference narrows -/
noncomputable def quB (A : zAb) (u : Nat → Bool) : Bool := @decide (zqu A u) (Classical.propDecidable _)
theorem quB_iff {A : zAb} {u : Nat → Bool} : quB A u = true ↔ zqu A u := by
  unfold quB
  exact @decide_eq_true_iff _ (Classical.propDecidable _)
theorem quB_cong {A : zAb} {u v : Nat → Bool} (h : ∀ m, m < aM A → u m = v m) : quB A u = quB A v := by
  have := zqu_cong h
  by_cases g : quB A u = true
  · rw [g, quB_iff.mpr (this.mp (quB_iff.mp g))]
  · by_cases g2 : quB A v = true
    · exact absurd (quB_iff.mpr (this.mpr (quB_iff.mp g2))) g
    · rw [Bool.not_eq_true] at g g2
      rw [g, g2]
theorem gB_cong {A : zAb} {u v : Nat → Bool} (h : ∀ m, m < aM A → u m = v m) (t c : Nat) : gB A u t c = gB A v t c := by
  have := gN_cong (A := A) (t := t) (c := c) h
  by_cases g : gB A u t c = true
  · rw [g, gB_iff.mpr (this.mpr (gB_iff.mp g))]
  · by_cases g2 : gB A v t c = true
    · exact absurd (gB_iff.mpr (this.mp (gB_iff.mp g2))) g
    · rw [Bool.not_eq_true] at g g2
      rw [g, g2]
theorem gB_64 {A : zAb} {u : Nat → Bool} {t c : Nat} (h : gB A u t c = true) : c < 64 := ((gN_sb A u).1 t c (gB_iff.mp h)).2.1
theorem aAny_f {p : Nat → Bool} {n : Nat} : aAny p n = false ↔ ∀ i, i < n → p i = false := by
  constructor
  · intro h i hi
    by_cases g : p i = true
    · rw [aAny_iff.mpr ⟨i, hi, g⟩] at h; cases h
    · simpa using g
  · intro h
    by_cases g : aAny p n = true
    · obtain ⟨i, hi, e⟩ := aAny_iff.mp g
      rw [h i hi] at e; cases e
    · simpa using g
theorem zset_and0 {p q : Nat → Bool} : zset p 64 &&& zset q 64 = 0 ↔ aAny (fun i => p i && q i) 64 = false := by
  rw [tb_ext_iff, aAny_f]
  constructor
  · intro h i hi
    have := h i hi
    rw [tb_and, tb_set hi, tb_set hi] at this
    exact this
  · intro h i hi
    rw [tb_and, tb_set hi, tb_set hi]
    exact h i hi
theorem zset_inj {p q : Nat → Bool} : zset p 64 = zset q 64 ↔ ∀ i, i < 64 → p i = q i :=
  ⟨fun h i hi => by rw [← tb_set (p := p) hi, h, tb_set hi], zset_cong⟩
theorem zset_0 {p : Nat → Bool} : zset p 64 = 0 ↔ ∀ i, i < 64 → p i = false := by
  rw [tb_ext_iff]
  exact ⟨fun h i hi => by rw [← tb_set (p := p) hi]; exact h i hi, fun h i hi => by rw [tb_set hi]; exact h i hi⟩
/-- sets in a row of longs -/
def zLf (A : zAb) (σ : zSt) (c : Nat) (X : Nat → Nat → Bool) : Prop := ∀ t, t < aN A → zgl σ c 0 t = zset (X t) 64
def zUs (A : zAb) (σ : zSt) (u : Nat → Bool) : Prop := ∀ m, m < aM A → zgi σ 77 0 m = zb (u m = true)
section zMa
variable {d kc ks : Nat} {σ : zSt} {A : zAb} {Q : Option zV → zSt → Prop}
theorem L_X12_narrowOne (hW : zWf A) (hR : zRM A σ) {m : Nat} (hm : m < aM A) (hl : zLd A σ m) {X : Nat → Nat → Bool} (hX : zLf A σ 78 X)
    (hQ : ∀ x σ', zOnly (fun c _ _ => c = 78) σ σ' → zLf A σ' 78 (nSet X (mA A m) (mB A m) (nFor A m (X (mA A m)) (X (mB A m))) (nBak A m (X (mA A m)) (X (mB A m)))) → (x = 0 ↔ (∀ c, c < 64 → X (mA A m) c = nFor A m (X (mA A m)) (X (mB A m)) c) ∧ ∀ c, c < 64 → X (mB A m) c = nBak A m (X (mA A m)) (X (mB A m)) c) → Q (some (.inl x)) σ') : ∀ (n k : Nat), k + n = 64 → zE true (d + 2) kc ks M_X12_narrowOne 34 [some (.inr (.inr (54, 0))), some (.inl (nI m)), some (.inr (.inl (zset (X (mA A m)) 64))), none, some (.inr (.inl (zset (X (mB A m)) 64))), none, some (.inr (.inl (zset (nFor A m (X (mA A m)) (X (mB A m))) k))), none, some (.inr (.inl (zset (nBak A m (X (mA A m)) (X (mB A m))) k))), none, some (.inl (nI k))] [] σ Q := by
  have hM : aM A ≤ 60 := hW.1.2.2.2.2.2.1
  have hN : aN A ≤ 24 := hW.1.2.2.2.2.1
  obtain ⟨r1, r2, r3, r4, r5, r6⟩ := hR.2.2.1 m hm
  obtain ⟨w1, w2, w3, w4, w5, w6, w7, w8⟩ := hW.2.2.1 m hm
  have i60 : vp_in (nI m) 60 := nI_in (by omega) (by omega)
  intro n
  induction n with
  | zero =>
    intro k hk
    have : k = 64 := by omega
    subst this
    refine T_X12_narrowOne_34 ⟨fun _ => ?_, fun h => absurd (show (64 : Int32) ≤ nI 64 by decide) h⟩
    rw [nI_clamp (show m < 2 ^ 31 by omega), r2, r3, nI_clamp (show mA A m < 2 ^ 31 by omega), nI_clamp (show mB A m < 2 ^ 31 by omega)]
    refine ⟨i60, nI_in (by omega) (by omega), i60, nI_in (by omega) (by omega), fun x hx => hQ x _ ((zOnly.sl rfl).tr (zOnly.sl rfl)) (fun t ht => ?_) ?_⟩
    · rw [zgl_sl, zgl_sl]
      unfold nSet
      by_cases z : t = mB A m
      · rw [if_pos ⟨rfl, rfl, z⟩]
        simp only [if_pos z]
      · rw [if_neg (fun w => z w.2.2)]
        simp only [if_neg z]
        by_cases z2 : t = mA A m
        · rw [if_pos ⟨trivial, trivial, z2⟩]
          simp only [if_pos z2]
        · rw [if_neg (fun w => z2 w.2.2)]
          simp only [if_neg z2]
          exact hX t ht
    · rw [hx, ← zset_inj, ← zset_inj, zb_of1 (P := ¬ (zset (X (mA A m)) 64 = zset (nFor A m (X (mA A m)) (X (mB A m))) 64 ∧ zset (X (mB A m)) 64 = zset (nBak A m (X (mA A m)) (X (mB A m))) 64)) ?_, zb_0, Decidable.not_not]
      rw [zb_0, zb_0, Decidable.not_not, Decidable.not_not, Decidable.not_and_iff_or_not]
  | succ n ih =>
    intro k hk
    have k64 : k < 64 := by omega
    have bA : ∀ y : Int64, y = (if (zb (zlushr (zset (X (mA A m)) 64) (nI k) &&& 1 = 1)) = 0 ∨ lg_cmp (zset (kept A m k) 64 &&& zset (X (mB A m)) 64) 0 = 0 then 0 else zlshl 1 (nI k)) → zset (nFor A m (X (mA A m)) (X (mB A m))) k ||| y = zset (nFor A m (X (mA A m)) (X (mB A m))) (k + 1) := by
      intro y hy
      rw [zset, hy, zl_b1 k64]
      congr 1
      by_cases h : nFor A m (X (mA A m)) (X (mB A m)) k = true
      · rw [if_pos h, if_neg]
        unfold nFor at h
        rw [Bool.and_eq_true] at h
        rintro (g | g)
        · exact zb_0.mp g h.1
        · rw [lg_cmp_0, zset_and0] at g
          rw [g] at h; cases h.2
      · rw [if_neg h, if_pos]
        unfold nFor at h
        rw [Bool.and_eq_true] at h
        by_cases g : X (mA A m) k = true
        · refine Or.inr ?_
          rw [lg_cmp_0, zset_and0]
          exact Bool.eq_false_iff.mpr (fun q => h ⟨g, q⟩)
        · exact Or.inl (zb_0.mpr g)
    have bB : ∀ y : Int64, y = (if (zb (zlushr (zset (X (mB A m)) 64) (nI k) &&& 1 = 1)) = 0 ∨ lg_cmp (zset (fun x => kept A m x k) 64 &&& zset (X (mA A m)) 64) 0 = 0 then 0 else zlshl 1 (nI k)) → zset (nBak A m (X (mA A m)) (X (mB A m))) k ||| y = zset (nBak A m (X (mA A m)) (X (mB A m))) (k + 1) := by
      intro y hy
      rw [zset, hy, zl_b1 k64]
      congr 1
      by_cases h : nBak A m (X (mA A m)) (X (mB A m)) k = true
      · rw [if_pos h, if_neg]
        unfold nBak at h
        rw [Bool.and_eq_true] at h
        rintro (g | g)
        · exact zb_0.mp g h.1
        · rw [lg_cmp_0, zset_and0] at g
          rw [g] at h; cases h.2
      · rw [if_neg h, if_pos]
        unfold nBak at h
        rw [Bool.and_eq_true] at h
        by_cases g : X (mB A m) k = true
        · refine Or.inr ?_
          rw [lg_cmp_0, zset_and0]
          exact Bool.eq_false_iff.mpr (fun q => h ⟨g, q⟩)
        · exact Or.inl (zb_0.mpr g)
    refine T_X12_narrowOne_34 ⟨fun g => ?_, fun _ => ?_⟩
    · rw [show (64 : Int32) = nI 64 from rfl, nI_leI (by omega) (by omega)] at g
      omega
    · rw [e64, nI_clamp (show 64 * m + k < 2 ^ 31 by omega), (hl k k64).1, (hl k k64).2, ← nI_succ]
      refine ⟨fun _ => nI_in (by omega) (by omega), fun y hy => ⟨fun _ => nI_in (by omega) (by omega), fun y2 hy2 => ?_⟩⟩
      rw [bA y hy, bB y2 hy2]
      exact ih (k + 1) (by omega)
theorem S_X12_narrowOne {K : Int32 → zSt → Prop} (hW : zWf A) (hR : zRM A σ) {m : Nat} (hm : m < aM A) (hl : zLd A σ m) {X : Nat → Nat → Bool} (hX : zLf A σ 78 X)
    (hK : ∀ x σ', zOnly (fun c _ _ => c = 78) σ σ' → zLf A σ' 78 (nSet X (mA A m) (mB A m) (nFor A m (X (mA A m)) (X (mB A m))) (nBak A m (X (mA A m)) (X (mB A m)))) → (x = 0 ↔ (∀ c, c < 64 → X (mA A m) c = nFor A m (X (mA A m)) (X (mB A m)) c) ∧ ∀ c, c < 64 → X (mB A m) c = nBak A m (X (mA A m)) (X (mB A m)) c) → K x σ') : zCi true (d + 2) 0 0 M_X12_narrowOne [.inr (.inr (54, 0)), .inl (nI m)] σ K := by
  have hM : aM A ≤ 60 := hW.1.2.2.2.2.2.1
  have hN : aN A ≤ 24 := hW.1.2.2.2.2.1
  obtain ⟨r1, r2, r3, r4, r5, r6⟩ := hR.2.2.1 m hm
  obtain ⟨w1, w2, w3, w4, w5, w6, w7, w8⟩ := hW.2.2.1 m hm
  have i60 : vp_in (nI m) 60 := nI_in (by omega) (by omega)
  refine zC_intro pl_X12 (Nat.le_of_ble_eq_true rfl) (T_X12_narrowOne_0 ?_)
  rw [nI_clamp (show m < 2 ^ 31 by omega), r2, r3, nI_clamp (show mA A m < 2 ^ 31 by omega), nI_clamp (show mB A m < 2 ^ 31 by omega), hX _ w2, hX _ w3]
  exact ⟨i60, nI_in (by omega) (by omega), i60, nI_in (by omega) (by omega), L_X12_narrowOne (d := d) (kc := 0) (ks := 0) (Q := fun r σ' => ∃ x, r = some (.inl x) ∧ K x σ') hW hR hm hl hX (fun x σ' h1 h2 h3 => ⟨x, rfl, hK x σ' h1 h2 h3⟩) 64 0 rfl⟩
/-- nothing lost: the measure asks nothing more -/
theorem zSat_ref {u : Nat → Bool} {X : Nat → Nat → Bool} (hW : zWf A) (hA : zAv A u X) {m : Nat} (hm : m < aM A) (h1 : ∀ c, c < 64 → X (mA A m) c = nFor A m (X (mA A m)) (X (mB A m)) c) (h2 : ∀ c, c < 64 → X (mB A m) c = nBak A m (X (mA A m)) (X (mB A m)) c) : zSat A X m := by
  obtain ⟨w1, w2, w3, w4⟩ := hW.2.2.1 m hm
  refine ⟨fun c hc => ?_, fun c hc => ?_⟩
  · have h := h1 c (hA.2 _ c w2 hc).1
    rw [hc] at h
    exact (nFor_iff.mp h.symm).2
  · have h := h2 c (hA.2 _ c w3 hc).1
    rw [hc] at h
    exact (nBak_iff.mp h.symm).2
theorem nSet_le {X : Nat → Nat → Bool} {m : Nat} {t c : Nat} (h : nSet X (mA A m) (mB A m) (nFor A m (X (mA A m)) (X (mB A m))) (nBak A m (X (mA A m)) (X (mB A m))) t c = true) : X t c = true := by
  unfold nSet at h
  split at h
  · next e => subst e; exact (nBak_iff.mp h).1
  · split at h
    · next e => subst e; exact (nFor_iff.mp h).1
    · exact h
theorem nSet_eq {X : Nat → Nat → Bool} {m : Nat} (h1 : ∀ c, c < 64 → X (mA A m) c = nFor A m (X (mA A m)) (X (mB A m)) c) (h2 : ∀ c, c < 64 → X (mB A m) c = nBak A m (X (mA A m)) (X (mB A m)) c) {t c : Nat} (hc : c < 64) : nSet X (mA A m) (mB A m) (nFor A m (X (mA A m)) (X (mB A m))) (nBak A m (X (mA A m)) (X (mB A m))) t c = X t c := by
  unfold nSet
  split
  · next e => subst e; exact (h2 c hc).symm
  · split
    · next e => subst e; exact (h1 c hc).symm
    · rfl
/-- the mask of narrowing -/
abbrev zNm1 (c _j _k : Nat) : Prop := (72 ≤ c ∧ c ≤ 76) ∨ c = 78
theorem L_X12_nar41 (hW : zWf A) {σ0 : zSt} (hR : zRM A σ0) (hL : ∀ m, m < aM A → zLd A σ0 m) {u : Nat → Bool} (hU : zUs A σ0 u) {T : Nat} (hnext : ∀ σ' X (v : Int32), zOnly (fun c _ _ => c = 78) σ0 σ' → zLf A σ' 78 X → zAv A u X → zTot X (aN A) ≤ T → (v = 0 → ∀ m, m < aM A → u m = true → zSat A X m) → (¬ v = 0 → zTot X (aN A) < T) → zE true (d + 7) kc ks M_X12_narrow 33 [some (.inr (.inr (54, 0))), some (.inl (v)), none, none] [] (σ') Q) : ∀ (n k : Nat), k + n = aM A → ∀ (σ : zSt) (X : Nat → Nat → Bool) (v : Int32), zOnly (fun c _ _ => c = 78) σ0 σ → zLf A σ 78 X → zAv A u X → zTot X (aN A) ≤ T → (v = 0 → ∀ m, m < k → u m = true → zSat A X m) → (¬ v = 0 → zTot X (aN A) < T) → zE true (d + 7) kc ks M_X12_narrow 41 [some (.inr (.inr (54, 0))), some (.inl (v)), some (.inl (nI k)), none] [] σ Q := by
  have hM : aM A ≤ 60 := hW.1.2.2.2.2.2.1
  intro n
  induction n with
  | zero =>
    intro k hk σ X v ho hX hA hT h0 h1
    have hR2 : zRM A σ := hR.only ho (fun c k hb => by unfold zBM at hb; omega)
    have : k = aM A := by omega
    subst this
    exact T_X12_narrow_41 ⟨fun _ => hnext σ X v ho hX hA hT h0 h1, fun h => absurd (by rw [hR2.1.2.2.2.1]; exact Int32.le_refl _) h⟩
  | succ n ih =>
    intro k hk σ X v ho hX hA hT h0 h1
    have hR2 : zRM A σ := hR.only ho (fun c k hb => by unfold zBM at hb; omega)
    have hkM : k < aM A := by omega
    have hL2 : zLd A σ k := fun c hc => by
      rw [ho.l 75 0 _ (by omega), ho.l 76 0 _ (by omega)]
      exact hL k hkM c hc
    obtain ⟨w1, w2, w3, w4⟩ := hW.2.2.1 k hkM
    refine T_X12_narrow_41 ⟨fun g => ?_, fun _ => ?_⟩
    · rw [hR2.1.2.2.2.1, nI_leI (by omega) (by omega)] at g
      omega
    · rw [nI_clamp (show k < 2 ^ 31 by omega), ho.i 77 0 k (by omega), hU k hkM, zb_0, ← nI_succ]
      refine ⟨nI_in (by omega) (by omega), fun g => ?_, fun g => S_X12_narrowOne hW hR2 hkM hL2 hX (fun x σ' o1 o2 o3 => ⟨fun e => ?_, fun e => ?_⟩)⟩
      · refine ih (k + 1) (by omega) σ X v ho hX hA hT (fun e m hm hu => ?_) h1
        by_cases z : m = k
        · subst z; exact absurd hu g
        · exact h0 e m (by omega) hu
      · rw [Decidable.not_not] at g
        obtain ⟨e1, e2⟩ := o3.mp e
        have hX' : zLf A σ' 78 X := fun t ht => by rw [o2 t ht]; exact zset_cong (fun c hc => nSet_eq e1 e2 hc)
        refine ih (k + 1) (by omega) σ' X v (ho.tr o1) hX' hA hT (fun e m hm hu => ?_) h1
        by_cases z : m = k
        · subst z; exact zSat_ref hW hA hkM e1 e2
        · exact h0 e m (by omega) hu
      · rw [Decidable.not_not] at g
        have hlt : zTot (nSet X (mA A k) (mB A k) (nFor A k (X (mA A k)) (X (mB A k))) (nBak A k (X (mA A k)) (X (mB A k)))) (aN A) < zTot X (aN A) := by
          by_cases q1 : ∀ c, c < 64 → X (mA A k) c = nFor A k (X (mA A k)) (X (mB A k)) c
          · by_cases q2 : ∀ c, c < 64 → X (mB A k) c = nBak A k (X (mA A k)) (X (mB A k)) c
            · exact absurd (o3.mpr ⟨q1, q2⟩) e
            · obtain ⟨c, hc⟩ := Classical.not_forall.mp q2
              obtain ⟨hc1, hc2⟩ := Classical.not_imp.mp hc
              have t1 : X (mB A k) c = true := by
                by_cases z : X (mB A k) c = true
                · exact z
                · exfalso; apply hc2
                  have : ¬ nBak A k (X (mA A k)) (X (mB A k)) c = true := fun q => z (nBak_iff.mp q).1
                  rw [Bool.not_eq_true] at z this
                  rw [z, this]
              refine zTot_lt (fun t c _ _ h => nSet_le h) w3 hc1 t1 ?_
              unfold nSet
              rw [if_pos rfl]
              rw [t1] at hc2
              exact (Bool.eq_false_iff.mpr (fun q => hc2 q.symm))
          · obtain ⟨c, hc⟩ := Classical.not_forall.mp q1
            obtain ⟨hc1, hc2⟩ := Classical.not_imp.mp hc
            have t1 : X (mA A k) c = true := by
              by_cases z : X (mA A k) c = true
              · exact z
              · exfalso; apply hc2
                have : ¬ nFor A k (X (mA A k)) (X (mB A k)) c = true := fun q => z (nFor_iff.mp q).1
                rw [Bool.not_eq_true] at z this
                rw [z, this]
            refine zTot_lt (fun t c _ _ h => nSet_le h) w2 hc1 t1 ?_
            unfold nSet
            rw [if_neg w4.1, if_pos rfl]
            rw [t1] at hc2
            exact (Bool.eq_false_iff.mpr (fun q => hc2 q.symm))
        refine ih (k + 1) (by omega) σ' _ 1 (ho.tr o1) o2 (zAv_ref hA hkM g) (by omega) (fun e => absurd e (by decide)) (fun _ => by omega)
theorem L_X12_nar81 (hW : zWf A) (hR : zRM A σ) {u : Nat → Bool} (hX : zLf A σ 78 (gB A u)) (hQ : Q (some (.inl (zb (quB A u = true)))) σ) : ∀ (n k : Nat), k + n = aN A → ∀ v : Int32, v = zb (aAny (fun t => decide (zset (gB A u t) 64 = 0)) k = true) → zE true (d + 7) kc ks M_X12_narrow 81 [some (.inr (.inr (54, 0))), none, some (.inl (v)), some (.inl (nI k))] [] σ Q := by
  have hN : aN A ≤ 24 := hW.1.2.2.2.2.1
  have hall : aAny (fun t => decide (zset (gB A u t) 64 = 0)) (aN A) = quB A u := by
    have key : aAny (fun t => decide (zset (gB A u t) 64 = 0)) (aN A) = true ↔ quB A u = true := by
      rw [aAny_iff, quB_iff]
      constructor
      · rintro ⟨t, h1, h2⟩
        rw [decide_eq_true_iff, zset_0] at h2
        refine ⟨t, h1, fun c hg => ?_⟩
        have := h2 c (gB_64 (gB_iff.mpr hg))
        rw [gB_iff.mpr hg] at this
        cases this
      · rintro ⟨t, h1, h2⟩
        refine ⟨t, h1, ?_⟩
        rw [decide_eq_true_iff, zset_0]
        intro c _
        exact Bool.eq_false_iff.mpr (fun q => h2 c (gB_iff.mp q))
    exact Bool.eq_iff_iff.mpr key
  intro n
  induction n with
  | zero =>
    intro k hk v hv
    have : k = aN A := by omega
    subst this
    subst hv
    rw [hall]
    exact T_X12_narrow_81 ⟨fun _ => ⟨zb_01, hQ⟩, fun h => absurd (by rw [hR.1.2.2.1]; exact Int32.le_refl _) h⟩
  | succ n ih =>
    intro k hk v hv
    refine T_X12_narrow_81 ⟨fun g => ?_, fun _ => ⟨fun _ => nI_in (by omega) (by omega), fun x hx => ?_⟩⟩
    · rw [hR.1.2.2.1, nI_leI (by omega) (by omega)] at g
      omega
    · rw [← nI_succ]
      refine ih (k + 1) (by omega) x ?_
      rw [hx, nI_clamp (show k < 2 ^ 31 by omega), hX k (by omega)]
      apply zb_of1
      rw [lg_cmp_0, hv, zb_0, Decidable.not_not, aAny, Bool.or_eq_true, decide_eq_true_iff]
theorem L_X12_nar33 (hW : zWf A) {σ0 : zSt} (hR : zRM A σ0) (hL : ∀ m, m < aM A → zLd A σ0 m) {u : Nat → Bool} (hU : zUs A σ0 u) (hQ : ∀ σ', zOnly (fun c _ _ => c = 78) σ0 σ' → zLf A σ' 78 (gB A u) → Q (some (.inl (zb (quB A u = true)))) σ') : ∀ (T : Nat) (σ : zSt) (X : Nat → Nat → Bool) (v : Int32), zOnly (fun c _ _ => c = 78) σ0 σ → zLf A σ 78 X → zAv A u X → zTot X (aN A) ≤ T → (v = 0 → ∀ m, m < aM A → u m = true → zSat A X m) → zE true (d + 7) kc ks M_X12_narrow 33 [some (.inr (.inr (54, 0))), some (.inl (v)), none, none] [] σ Q := by
  have hend : ∀ (σ : zSt) (X : Nat → Nat → Bool) (v : Int32), zOnly (fun c _ _ => c = 78) σ0 σ → zLf A σ 78 X → zAv A u X → (v = 0 → ∀ m, m < aM A → u m = true → zSat A X m) → v = 0 → zE true (d + 7) kc ks M_X12_narrow 81 [some (.inr (.inr (54, 0))), none, some (.inl (0)), some (.inl (0))] [] σ Q := by
    intro σ X v ho hX hA h0 g
    have hR2 : zRM A σ := hR.only ho (fun c k hb => by unfold zBM at hb; omega)
    have hX2 : zLf A σ 78 (gB A u) := fun t ht => by
      rw [hX t ht]
      exact zset_cong (fun c _ => zAv_end hW hA (h0 g) ht)
    exact L_X12_nar81 hW hR2 hX2 (hQ σ ho hX2) (aN A) 0 (by omega) 0 rfl
  intro T
  induction T with
  | zero =>
    intro σ X v ho hX hA hT h0
    refine T_X12_narrow_33 ⟨fun g => hend σ X v ho hX hA h0 g, fun g => ?_⟩
    have hR2 : zRM A σ := hR.only ho (fun c k hb => by unfold zBM at hb; omega)
    exact L_X12_nar41 hW hR hL hU (T := 0) (fun σ' X' v' o1 o2 o3 o4 o5 o6 => T_X12_narrow_33 ⟨fun g => hend σ' X' v' o1 o2 o3 o5 g, fun g => absurd (o6 g) (Nat.not_lt_zero _)⟩) (aM A) 0 (by omega) σ X 0 ho hX hA hT (fun _ m hm => absurd hm (Nat.not_lt_zero m)) (fun q => absurd rfl q)
  | succ T ih =>
    intro σ X v ho hX hA hT h0
    refine T_X12_narrow_33 ⟨fun g => hend σ X v ho hX hA h0 g, fun g => ?_⟩
    exact L_X12_nar41 hW hR hL hU (T := T + 1) (fun σ' X' v' o1 o2 o3 o4 o5 o6 => by
      by_cases g : v' = 0
      · exact T_X12_narrow_33 ⟨fun g => hend σ' X' v' o1 o2 o3 o5 g, fun q => absurd g q⟩
      · exact ih σ' X' v' o1 o2 o3 (by have := o6 g; omega) o5) (aM A) 0 (by omega) σ X 0 ho hX hA hT (fun _ m hm => absurd hm (Nat.not_lt_zero m)) (fun q => absurd rfl q)
theorem L_X12_nar6 (hW : zWf A) {σ0 : zSt} (hR : zRM A σ0) (hL : ∀ m, m < aM A → zLd A σ0 m) {u : Nat → Bool} (hU : zUs A σ0 u) (hQ : ∀ σ', zOnly (fun c _ _ => c = 78) σ0 σ' → zLf A σ' 78 (gB A u) → Q (some (.inl (zb (quB A u = true)))) σ') : ∀ (n k : Nat), k + n = aN A → ∀ (σ : zSt), zOnly (fun c _ _ => c = 78) σ0 σ → (∀ t, t < k → zgl σ 78 0 t = zset (atold A t) 64) → zE true (d + 7) kc ks M_X12_narrow 6 [some (.inr (.inr (54, 0))), some (.inl (nI k)), none, none] [] σ Q := by
  have hN : aN A ≤ 24 := hW.1.2.2.2.2.1
  intro n
  induction n with
  | zero =>
    intro k hk σ ho hz
    have hR2 : zRM A σ := hR.only ho (fun c k hb => by unfold zBM at hb; omega)
    have : k = aN A := by omega
    subst this
    refine T_X12_narrow_6 ⟨fun _ => ?_, fun h => absurd (by rw [hR2.1.2.2.1]; exact Int32.le_refl _) h⟩
    exact L_X12_nar33 hW hR hL hU hQ _ σ (fun t c => decide (c < 64) && atold A t c) 1 ho (fun t ht => by rw [hz t ht]; exact zset_cong (fun i hi => by simp [hi])) (zAv_told A u) (Nat.le_refl _) (fun q => absurd q (by decide))
  | succ n ih =>
    intro k hk σ ho hz
    have hR2 : zRM A σ := hR.only ho (fun c k hb => by unfold zBM at hb; omega)
    refine T_X12_narrow_6 ⟨fun g => ?_, fun _ => S_X12_toldOf hW hR2 (by omega) ⟨nI_in (by omega) (by omega), ?_⟩⟩
    · rw [hR2.1.2.2.1, nI_leI (by omega) (by omega)] at g
      omega
    · rw [nI_clamp (show k < 2 ^ 31 by omega), ← nI_succ]
      refine ih (k + 1) (by omega) _ (ho.tr (zOnly.sl rfl)) (fun t ht => ?_)
      rw [zgl_sl]
      by_cases z : t = k
      · rw [if_pos ⟨rfl, rfl, z⟩, z]
      · rw [if_neg (fun w => z w.2.2)]
        exact hz t (by omega)
theorem S_X12_narrow {K : Int32 → zSt → Prop} (hW : zWf A) (hR : zRM A σ) (hl : zLdI A σ) {u : Nat → Bool} (hU : zUs A σ u) (hK : ∀ σ', zOnly zNm1 σ σ' → zLdI A σ' → zLf A σ' 78 (gB A u) → K (zb (quB A u = true)) σ') : zCi true (d + 7) 0 0 M_X12_narrow [.inr (.inr (54, 0))] σ K := by
  refine zC_intro pl_X12 (Nat.le_of_ble_eq_true rfl) (T_X12_narrow_0 (S_X12_layAll hW hR hl (fun σ1 o1 o2 o3 => ?_)))
  have hR2 : zRM A σ1 := hR.only o1 (fun c k hb => by unfold zBM at hb; omega)
  have hU2 : zUs A σ1 u := fun m hm => by rw [o1.i 77 0 m (by omega)]; exact hU m hm
  refine L_X12_nar6 (d := d) (kc := 0) (ks := 0) (Q := fun r σ' => ∃ x, r = some (.inl x) ∧ K x σ') hW hR2 o2 hU2 (fun σ' p1 p2 => ⟨_, rfl, hK σ' ((o1.mono (fun a j k h => Or.inl h)).tr (p1.mono (fun a j k h => Or.inr h))) (fun m hm hz => ?_) p2⟩) (aN A) 0 (by omega) σ1 zOnly.rf (fun t ht => absurd ht (Nat.not_lt_zero t))
  rw [p1.i 72 0 m (by omega)] at hz
  intro c hc
  rw [p1.l 75 0 _ (by omega), p1.l 76 0 _ (by omega)]
  exact o3 m hm hz c hc
end zMa
