/-! walls by a sheet; measures by a sheet (reference) -/
theorem nI_dm : ∀ x, x < 64 → ∀ w, w < 9 → 0 < w → nI x / nI w = nI (x / w) ∧ nI x % nI w = nI (x % w) := by decide +kernel
theorem zqw : ∀ w, w < 9 → ∀ q, q < 8 → ∀ r, r < w → (q * w + r) / w = q ∧ (q * w + r) % w = r := by decide +kernel
theorem l5 : ∀ c, c < 21 → (5 * (nI c).toInt64 + 5) = (nI (5 * c + 5)).toInt64 := by decide +kernel
/-- the place of a cell in a row of the field's cells -/
def pIx (A : zAb) (c : Nat) : Nat := (c / 8) * aW A + c % 8
def pCl (A : zAb) (x : Nat) : Nat := 8 * (x / aW A) + x % aW A
theorem pIx_lt {A : zAb} {c : Nat} (hc : acell A c = true) : pIx A c < aW A * aH A := by
  simp only [acell, Bool.and_eq_true, decide_eq_true_eq] at hc
  unfold pIx
  have h1 : (c / 8 + 1) * aW A ≤ aH A * aW A := Nat.mul_le_mul_right _ (by omega)
  rw [Nat.add_mul, Nat.one_mul, Nat.mul_comm (aH A)] at h1
  omega
theorem pCl_ix {A : zAb} (hW : zWf A) {c : Nat} (hc : acell A c = true) : pCl A (pIx A c) = c := by
  simp only [acell, Bool.and_eq_true, decide_eq_true_eq] at hc
  have w := hW.1
  have := zqw (aW A) (by omega) (c / 8) (by omega) (c % 8) (by omega)
  unfold pCl pIx
  rw [this.1, this.2]
  omega
theorem pCl_f {A : zAb} (hW : zWf A) {x : Nat} (hx : x < aW A * aH A) : acell A (pCl A x) = true ∧ pIx A (pCl A x) = x ∧ pCl A x < 64 := by
  have w := hW.1
  have h1 : x / aW A < aH A := (Nat.div_lt_iff_lt_mul (by omega)).mpr (by rw [Nat.mul_comm]; exact hx)
  have h2 : x % aW A < aW A := Nat.mod_lt _ (by omega)
  have h3 : aW A * (x / aW A) + x % aW A = x := Nat.div_add_mod x (aW A)
  have e1 : (8 * (x / aW A) + x % aW A) % 8 = x % aW A := by omega
  have e2 : (8 * (x / aW A) + x % aW A) / 8 = x / aW A := by omega
  refine ⟨?_, ?_, ?_⟩
  · simp only [acell, Bool.and_eq_true, decide_eq_true_eq]
    unfold pCl
    rw [e1, e2]
    omega
  · unfold pIx pCl
    rw [e1, e2, Nat.mul_comm]
    exact h3
  · unfold pCl; omega
theorem wh64 {A : zAb} (hW : zWf A) : aW A * aH A ≤ 64 := by
  have w := hW.1
  have := Nat.mul_le_mul w.2.1 w.2.2.2.1
  omega
/-- whether a wall of the row would stand under an anchor -/
def plB (A : zAb) (f : Nat → Bool) : Bool := aAny (fun c => acell A c && f (pIx A c) && anAt A c) 64
theorem pl_wall {A : zAb} {f : Nat → Bool} (c : Nat) : aWl (aPlan A f) c = if acell A c = true then f (pIx A c) else aWl A c := by
  simp [aWl, aPlan, pIx]
theorem pl_wf {A : zAb} {f : Nat → Bool} (hW : zWf A) (h : plB A f = false) : zWf (aPlan A f) := by
  obtain ⟨h1, h2, h3, h4⟩ := hW
  refine ⟨h1, fun t ht => ?_, h3, h4⟩
  obtain ⟨q1, q2, q3⟩ := h2 t ht
  refine ⟨q1, fun hk => ?_, q3⟩
  obtain ⟨c, ec, hc⟩ := q2 hk
  refine ⟨c, ec, ?_⟩
  have hac : acell A c = true := by
    unfold afree at hc
    rw [Bool.and_eq_true] at hc
    exact hc.1
  have h0 := aAny_f.mp h c (acell_64 hac)
  have han : anAt A c = true := aAny_iff.mpr ⟨t, ht, by rw [Bool.and_eq_true, decide_eq_true_eq, decide_eq_true_eq]; exact ⟨hk, ec⟩⟩
  rw [hac, han, Bool.true_and, Bool.and_true] at h0
  show (acell A c && !aWl (aPlan A f) c) = true
  rw [pl_wall, if_pos hac, hac, h0]
  rfl
def msRun (B : zSh) (k : Nat) (i n : Int) : Nat → Nat → zAb → Int × Int × zAb
  | 0, c, A => (c, 0, A)
  | r + 1, c, A => if n ≤ c then (c, 0, A) else if ¬ sRe (B.1 k) i (5 * c + 5) then (c, 3, A) else if (measF A (B.2.2 k (i.toNat + 5 * c)).toInt32 (B.2.2 k (i.toNat + 5 * c + 1)).toInt32 (B.2.2 k (i.toNat + 5 * c + 2)).toInt32 (B.2.2 k (i.toNat + 5 * c + 3)).toInt32 (B.2.2 k (i.toNat + 5 * c + 4)).toInt32).1 < 0 then (c, 0, A) else msRun B k i n r (c + 1) (measF A (B.2.2 k (i.toNat + 5 * c)).toInt32 (B.2.2 k (i.toNat + 5 * c + 1)).toInt32 (B.2.2 k (i.toNat + 5 * c + 2)).toInt32 (B.2.2 k (i.toNat + 5 * c + 3)).toInt32 (B.2.2 k (i.toNat + 5 * c + 4)).toInt32).2
theorem measF_1 {A : zAb} (hW : zWf A) (a b c p q : Int32) : -4 ≤ (measF A a b c p q).1 ∧ (measF A a b c p q).1 < 60 := by
  have hM : aM A ≤ 60 := hW.1.2.2.2.2.2.1
  unfold measF
  split
  · simp
  · split
    · simp
    · split
      · simp
      · next h => simp; omega
section zMj
variable {d kc ks : Nat} {σ : zSt} {A : zAb} {B : zSh} {Q : Option zV → zSt → Prop}
abbrev zPq (c _j k : Nat) : Prop := c = 55 ∨ c = 72 ∨ (c = 54 ∧ (k = 0 ∨ k = 25 ∨ k = 26 ∨ k = 27))
theorem L_X12_plan182 (hW : zWf A) {f : Nat → Bool} (hpl : plB A f = false) {g : Nat} (hg : g + aW A * aH A ≤ 256) {σ0 : zSt} (hR : zRM A σ0) (hf : ∀ x, x < aW A * aH A → f x = !decide (zgl σ0 100 0 (g + x) = 0)) (hQ : ∀ σ', zRM (aPlan A f) σ' → zCM (aPlan A f) σ' → zOnly zPq σ0 σ' → zgi σ' 54 0 0 = 0 → Q (some (.inl (nI (fb_ct (afree (aPlan A f)) 64)))) σ') : ∀ (n x : Nat), x + n = aW A * aH A → ∀ σ : zSt, zOnly (fun c _ _ => c = 55) σ0 σ → (∀ c, c < 64 → zgi σ 55 0 c = if acell A c = true ∧ pIx A c < x then zb (f (pIx A c) = true) else zgi σ0 55 0 c) → zE true (d + 5) kc ks M_X12_plan 182 [some (.inr (.inr (54, 0))), none, none, none, some (.inl (nI g)), some (.inl (nI x))] [] σ Q := by
  have w := hW.1
  have w64 := wh64 hW
  intro n
  induction n with
  | zero =>
    intro x hx σ ho hz
    have : x = aW A * aH A := by omega
    have e1 : zgi σ 54 0 1 = nI (aW A) := by rw [ho.i 54 0 1 (by omega)]; exact hR.1.1
    have e2 : zgi σ 54 0 2 = nI (aH A) := by rw [ho.i 54 0 2 (by omega)]; exact hR.1.2.1
    refine T_X12_plan_182 ⟨fun _ => S_X12_otherField (fun σ1 o1 z1 f1 f2 f3 => ?_), fun h => absurd (by rw [e1, e2, nI_mul, this]; exact Int32.le_refl _) h⟩
    have hR1 : zRM (aPlan A f) σ1 := by
      obtain ⟨⟨b1, b2, b3, b4, b5, b6, b7⟩, h2, h3, h4⟩ := hR
      have oo : zOnly (fun c j k => c = 55 ∨ zFl c j k) σ0 σ1 := (ho.mono (fun c j k h => Or.inl h)).tr (o1.mono (fun c j k h => Or.inr h))
      refine ⟨⟨?_, ?_, ?_, ?_, ?_, ?_, fun c hc => ?_⟩, fun t ht => ?_, fun m hm => ?_, fun v hv => ?_⟩
      · rw [oo.i 54 0 1 (by unfold zFl; omega)]; exact b1
      · rw [oo.i 54 0 2 (by unfold zFl; omega)]; exact b2
      · rw [oo.i 54 0 4 (by unfold zFl; omega)]; exact b3
      · rw [oo.i 54 0 12 (by unfold zFl; omega)]; exact b4
      · rw [oo.i 54 0 19 (by unfold zFl; omega)]; exact b5
      · rw [oo.i 54 0 23 (by unfold zFl; omega)]; exact b6
      · rw [o1.i 55 0 c (by unfold zFl; omega), hz c hc, pl_wall, this]
        by_cases q : acell A c = true
        · rw [if_pos ⟨q, pIx_lt q⟩, if_pos q]
        · rw [if_neg (fun z => q z.1), if_neg q]
          exact b7 c hc
      · rw [oo.i 56 0 _ (by unfold zFl; omega), oo.i 57 0 _ (by unfold zFl; omega), oo.i 58 0 _ (by unfold zFl; omega), oo.i 58 0 _ (by unfold zFl; omega), oo.i 58 0 _ (by unfold zFl; omega), oo.i 58 0 _ (by unfold zFl; omega), oo.i 59 0 _ (by unfold zFl; omega), oo.i 60 0 _ (by unfold zFl; omega), oo.i 61 0 _ (by unfold zFl; omega), oo.i 62 0 _ (by unfold zFl; omega)]
        exact h2 t ht
      · rw [oo.i 63 0 _ (by unfold zFl; omega), oo.i 64 0 _ (by unfold zFl; omega), oo.i 65 0 _ (by unfold zFl; omega), oo.i 66 0 _ (by unfold zFl; omega), oo.i 67 0 _ (by unfold zFl; omega), oo.i 68 0 _ (by unfold zFl; omega)]
        exact h3 m hm
      · rw [oo.i 69 0 _ (by unfold zFl; omega), oo.i 70 0 _ (by unfold zFl; omega), oo.i 71 0 _ (by unfold zFl; omega)]
        exact h4 v hv
    have hW1 := pl_wf hW hpl
    refine S_X12_freeCells hW1 hR1 (S_X12_refused _ (hQ _ ?_ ?_ ?_ (by rw [zgi_si, if_pos ⟨rfl, rfl, rfl⟩])))
    · exact hR1.only (zOnly.si (m := fun c _ k => c = 54 ∧ k = 0) ⟨rfl, rfl⟩) (fun c k hb => by unfold zBM at hb; omega)
    · exact zCM.ch (zLdI.zero hW1 (fun m hm => by rw [zgi_si, if_neg (by omega)]; exact z1 m hm)) (by rw [zgi_si, if_neg (by omega)]; exact f1) (by rw [zgi_si, if_neg (by omega)]; exact f2) (by rw [zgi_si, if_neg (by omega)]; exact f3)
    · exact ((ho.mono (fun c j k h => by unfold zPq; omega)).tr (o1.mono (fun c j k h => by unfold zFl at h; unfold zPq; omega))).tr (zOnly.si (by unfold zPq; omega))
  | succ n ih =>
    intro x hx σ ho hz
    have e1 : zgi σ 54 0 1 = nI (aW A) := by rw [ho.i 54 0 1 (by omega)]; exact hR.1.1
    have e2 : zgi σ 54 0 2 = nI (aH A) := by rw [ho.i 54 0 2 (by omega)]; exact hR.1.2.1
    have hxl : x < aW A * aH A := by omega
    obtain ⟨p1, p2, p3⟩ := pCl_f hW hxl
    have dm := nI_dm x (by omega) (aW A) (by omega) (by omega)
    have ec : 8 * (nI x / nI (aW A)) + nI x % nI (aW A) = nI (pCl A x) := by
      rw [dm.1, dm.2, show (8 : Int32) = nI 8 from rfl, nI_mul, nI_add]
      rfl
    have hne : ¬ nI (aW A) = 0 := fun q => by
      have := (nI_eq (a := aW A) (b := 0) (by omega) (by omega)).mp q
      omega
    refine T_X12_plan_182 ⟨fun q => ?_, fun _ => ?_⟩
    · rw [e1, e2, nI_mul, nI_leI (by omega) (by omega)] at q
      omega
    · rw [e1, ec, nI_add, nI_clamp (show g + x < 2 ^ 31 by omega), nI_clamp (show pCl A x < 2 ^ 31 by omega), ← nI_succ]
      refine ⟨hne, hne, nI_in (by omega) (by omega), fun y hy => ⟨nI_in (by omega) (by omega), ih (x + 1) (by omega) _ (ho.tr (zOnly.si rfl)) (fun c hc => ?_)⟩⟩
      have ey : y = zb (f x = true) := by
        rw [hy, ho.l 100 0 _ (by omega), hf x hxl]
        apply zb_of0
        rw [lg_cmp_0]
        simp
      rw [zgi_si]
      by_cases z : c = pCl A x
      · subst z
        rw [if_pos ⟨rfl, rfl, rfl⟩, if_pos ⟨p1, by rw [p2]; omega⟩, p2]
        exact ey
      · rw [if_neg (fun v => z v.2.2), hz c hc]
        by_cases q : acell A c = true
        · have : pIx A c ≠ x := fun v => z (by rw [← v, pCl_ix hW q])
          by_cases q2 : pIx A c < x
          · rw [if_pos ⟨q, q2⟩, if_pos ⟨q, by omega⟩]
          · rw [if_neg (fun v => q2 v.2), if_neg (fun v => by omega)]
        · rw [if_neg (fun v => q v.1), if_neg (fun v => q v.1)]
theorem L_X12_plan112 (hW : zWf A) {f : Nat → Bool} {g : Nat} (hg : g + aW A * aH A ≤ 256) (hR : zRM A σ) (hf : ∀ x, x < aW A * aH A → f x = !decide (zgl σ 100 0 (g + x) = 0)) (hst : plB A f = true → Q (some (.inl (-3))) (zsi σ 54 0 0 0)) (hQ : plB A f = false → ∀ σ', zRM (aPlan A f) σ' → zCM (aPlan A f) σ' → zOnly zPq σ σ' → zgi σ' 54 0 0 = 0 → Q (some (.inl (nI (fb_ct (afree (aPlan A f)) 64)))) σ') : ∀ (n x : Nat), x + n = aW A * aH A → (∀ y, y < x → ¬ (f y = true ∧ anAt A (pCl A y) = true)) → zE true (d + 5) kc ks M_X12_plan 112 [some (.inr (.inr (54, 0))), none, none, none, some (.inl (nI g)), some (.inl (nI x))] [] σ Q := by
  have w := hW.1
  have w64 := wh64 hW
  have e1 : zgi σ 54 0 1 = nI (aW A) := hR.1.1
  have e2 : zgi σ 54 0 2 = nI (aH A) := hR.1.2.1
  intro n
  induction n with
  | zero =>
    intro x hx hz
    have : x = aW A * aH A := by omega
    subst this
    have hpl : plB A f = false := aAny_f.mpr (fun c hc => by
      by_cases q : acell A c = true
      · have := hz (pIx A c) (pIx_lt q)
        rw [pCl_ix hW q] at this
        rw [q, Bool.true_and]
        exact Bool.eq_false_iff.mpr (fun v => this (by rw [Bool.and_eq_true] at v; exact v))
      · rw [Bool.not_eq_true] at q
        rw [q, Bool.false_and, Bool.false_and])
    exact T_X12_plan_112 ⟨fun _ => L_X12_plan182 hW hpl hg hR hf (hQ hpl) _ 0 (Nat.zero_add _) σ zOnly.rf (fun c hc => by rw [if_neg (by omega)]), fun h => absurd (by rw [e1, e2, nI_mul]; exact Int32.le_refl _) h⟩
  | succ n ih =>
    intro x hx hz
    have hxl : x < aW A * aH A := by omega
    obtain ⟨p1, p2, p3⟩ := pCl_f hW hxl
    have dm := nI_dm x (by omega) (aW A) (by omega) (by omega)
    have ec : 8 * (nI x / nI (aW A)) + nI x % nI (aW A) = nI (pCl A x) := by
      rw [dm.1, dm.2, show (8 : Int32) = nI 8 from rfl, nI_mul, nI_add]
      rfl
    have hne : ¬ nI (aW A) = 0 := fun q => by
      have := (nI_eq (a := aW A) (b := 0) (by omega) (by omega)).mp q
      omega
    have hgo : ¬ (f x = true ∧ anAt A (pCl A x) = true) → zE true (d + 5) kc ks M_X12_plan 112 [some (.inr (.inr (54, 0))), none, none, none, some (.inl (nI g)), some (.inl ((nI x + 1)))] [] σ Q := fun q => by
      rw [← nI_succ]
      refine ih (x + 1) (by omega) (fun y hy => ?_)
      by_cases z : y = x
      · subst z; exact q
      · exact hz y (by omega)
    refine T_X12_plan_112 ⟨fun q => ?_, fun _ => ?_⟩
    · rw [e1, e2, nI_mul, nI_leI (by omega) (by omega)] at q
      omega
    · rw [e1, ec, nI_add, nI_clamp (show g + x < 2 ^ 31 by omega), lg_cmp_0]
      refine ⟨nI_in (by omega) (by omega), fun q => hgo (fun v => ?_), fun q => ⟨hne, hne, S_X12_isAnchorAt hW hR p3 ⟨fun q2 => hgo (fun v => ?_), fun q2 => S_X12_refused _ (hst ?_)⟩⟩⟩
      · rw [hf x hxl, q] at v
        simp at v
      · rw [zb_0] at q2
        exact q2 v.2
      · rw [zb_0, Decidable.not_not] at q2
        refine aAny_iff.mpr ⟨pCl A x, p3, ?_⟩
        rw [p1, p2, q2, hf x hxl]
        simp [q]
/-- a sheet taken as a row: a refusal, a fault -/
theorem O_X12_plan {K : Int32 → zSt → Prop} (hW : zWf A) (hR : zRM A σ) (hB : zWs B) (hS : zRs B σ) (a l i : Int32) (hno : ¬ shI a → K (-1) (zsi σ 54 0 0 0)) (hout : shI a → ¬ shI l → K (-2) (zsi σ 54 0 0 0)) (hcast : ∀ k, k < 4 → a = nI k → shI l → 0 ≤ B.1 k → B.2.1 k ≠ l.toInt → K (-12) (zsi σ 54 0 0 2)) (hnull : ∀ k, k < 4 → a = nI k → shI l → B.1 k < 0 → K (-11) (zsi σ 54 0 0 1))
    (hidx : ∀ k, k < 4 → a = nI k → shI l → 0 ≤ B.1 k → B.2.1 k = l.toInt → ¬ sRe (B.1 k) i.toInt (aW A * aH A : Nat) → K (-13) (zsi σ 54 0 0 3))
    (hst : ∀ k g : Nat, k < 4 → a = nI k → shI l → 0 ≤ B.1 k → B.2.1 k = l.toInt → i = nI g → (g + aW A * aH A : Int) ≤ B.1 k → plB A (fun x => !decide (B.2.2 k (g + x) = 0)) = true → K (-3) (zsi σ 54 0 0 0))
    (hyes : ∀ k g : Nat, k < 4 → a = nI k → shI l → 0 ≤ B.1 k → B.2.1 k = l.toInt → i = nI g → (g + aW A * aH A : Int) ≤ B.1 k → plB A (fun x => !decide (B.2.2 k (g + x) = 0)) = false → ∀ σ', zRM (aPlan A (fun x => !decide (B.2.2 k (g + x) = 0))) σ' → zCM (aPlan A (fun x => !decide (B.2.2 k (g + x) = 0))) σ' → zOnly zPq σ σ' → zgi σ' 54 0 0 = 0 → K (nI (fb_ct (afree (aPlan A (fun x => !decide (B.2.2 k (g + x) = 0)))) 64)) σ') : zCi true (d + 5) 0 0 M_X12_plan [.inr (.inr (54, 0)), .inl (a), .inl (l), .inl (i)] σ K := by
  have w := hW.1
  have w64 := wh64 hW
  have hl : (0 ≤ l.toInt64 ∧ l.toInt64 ≤ 3) ↔ shI l := zin_c l (l := 0) (h := 3) (by omega) (by omega)
  refine zC_intro pl_X12 (Nat.le_of_ble_eq_true rfl) (T_X12_plan_0 (S_X12_noSheet a ⟨fun h => ⟨fun h2 => ?_, fun h2 => S_X12_refused _ ⟨_, rfl, hout ?_ ?_⟩⟩, fun h => S_X12_refused _ ⟨_, rfl, hno ?_⟩⟩))
  · rw [zb_0, Decidable.not_not] at h
    rw [zb_0, Decidable.not_not, hl] at h2
    obtain ⟨k, hk, rfl⟩ := shI_nI h
    have hr := ws_rng hB hk
    have hw := hB k hk
    have i4 : vp_in (nI k) 4 := nI_in (by omega) (by omega)
    have cn : (iI (B.1 k) < 0) ↔ B.1 k < 0 := iI_lt (b := 0) (by omega) (by omega)
    have cp : (0 ≤ iI (B.1 k)) ↔ 0 ≤ B.1 k := iI_le (a := 0) (by omega) (by omega)
    have tk : (iI (B.1 k)).toInt = B.1 k := iI_toInt (by omega) (by omega)
    rw [nI_clamp (show k < 2 ^ 31 by omega), (hS k hk).1]
    refine ⟨i4, fun _ => i4, fun g => T_X12_plan_57 ?_, fun g => S_X12_failed _ ⟨_, rfl, ?_⟩⟩
    · rw [nI_clamp (show k < 2 ^ 31 by omega), (hS k hk).1, hR.1.1, hR.1.2.1, nI_mul]
      refine ⟨i4, fun g1 => ⟨i4, fun g2 => ?_, fun g2 => S_X12_failed _ ⟨_, rfl, ?_⟩⟩, fun g1 => S_X12_failed _ ⟨_, rfl, hnull k hk rfl h2 ?_⟩⟩
      · rw [cp] at g1
        rw [zb_0, zbey, Decidable.not_not, tk, nI_toInt (show aW A * aH A < 2 ^ 31 by omega)] at g2
        have hla : B.2.1 k = l.toInt := by
          rcases g with g | g
          · rw [cn] at g; omega
          · rw [((hS k hk).2 g1).1, ← iI_of l, iI_eqI (by omega) (by have := fb_rng l; omega)] at g
            exact g
        unfold sRe at g2
        obtain ⟨j, hj, rfl⟩ : ∃ j : Nat, j ≤ 64 ∧ i = nI j := ⟨i.toInt.toNat, by omega, zI_of g2.1⟩
        rw [nI_toInt (show j < 2 ^ 31 by omega)] at g2
        rw [e64]
        refine L_X12_plan112 (f := fun x => !decide (B.2.2 k (j + x) = 0)) hW (by omega) hR (fun x hx => ?_) (fun q => ⟨_, rfl, hst k j hk rfl h2 g1 hla rfl (by omega) q⟩) (fun q σ' r1 r2 r3 r4 => ⟨_, rfl, hyes k j hk rfl h2 g1 hla rfl (by omega) q σ' r1 r2 r3 r4⟩) _ 0 (Nat.zero_add _) (fun y hy => absurd hy (Nat.not_lt_zero y))
        rw [Nat.add_assoc, ((hS k hk).2 g1).2 (j + x) (by omega)]
      · rw [cp] at g1
        rw [zb_0, zbey, Decidable.not_not, tk, nI_toInt (show aW A * aH A < 2 ^ 31 by omega)] at g2
        have hla : B.2.1 k = l.toInt := by
          rcases g with g | g
          · rw [cn] at g; omega
          · rw [((hS k hk).2 g1).1, ← iI_of l, iI_eqI (by omega) (by have := fb_rng l; omega)] at g
            exact g
        exact hidx k hk rfl h2 g1 hla g2
      · rw [cp] at g1
        omega
    · have g1 : ¬ B.1 k < 0 := fun q => g (Or.inl (cn.mpr q))
      refine hcast k hk rfl h2 (by omega) (fun q => g (Or.inr ?_))
      rw [((hS k hk).2 (by omega)).1, q, iI_of]
  · rw [zb_0, Decidable.not_not] at h
    exact h
  · rw [zb_0, hl] at h2
    exact h2
  · rw [zb_0, Decidable.not_not] at h
    exact h
abbrev zMr (c j k : Nat) : Prop := zMq c j k ∨ (c = 54 ∧ k = 0)
theorem L_X12_measures {k : Nat} {n : Int} (hB : zWs B) (hk : k < 4) (h0 : 0 ≤ B.1 k) (hn : 0 ≤ n ∧ n < 2147483648) (ii : Int32) {σ0 : zSt} {K : Int32 → zSt → Prop} : ∀ (r c : Nat), c + r = 20 → 5 * c ≤ 64 → ∀ (A : zAb) (σ : zSt), zWf A → zRM A σ → zCM A σ → zRs B σ → zOnly zMr σ0 σ → (∀ σ', zRM (msRun B k ii.toInt n r c A).2.2 σ' → zCM (msRun B k ii.toInt n r c A).2.2 σ' → zOnly zMr σ0 σ' → zgi σ' 54 0 0 = iI (msRun B k ii.toInt n r c A).2.1 → K (iI (msRun B k ii.toInt n r c A).1) σ') → zE true (d + 4) kc ks M_X12_measures 86 [some (.inr (.inr (54, 0))), some (.inl (nI k)), none, some (.inl ii), some (.inl (iI n)), some (.inl (nI c)), none] [] σ (fun r σ' => ∃ x, r = some (.inl x) ∧ K x σ') := by
  intro r
  induction r with
  | zero => intro c hc h5; omega
  | succ r ih =>
    intro c hc h5 A σ hW hR hC hS ho hK
    have hr := ws_rng hB hk
    have tk : (iI (B.1 k)).toInt = B.1 k := iI_toInt (by omega) (by omega)
    have cle : iI n ≤ nI c ↔ n ≤ (c : Int) := iI_le (b := (c : Int)) (by omega) (by omega)
    have i4 : vp_in (nI k) 4 := nI_in (by omega) (by omega)
    have fin : ∀ f : Int, zRM A (zsi σ 54 0 0 (iI f)) ∧ zCM A (zsi σ 54 0 0 (iI f)) ∧ zOnly zMr σ0 (zsi σ 54 0 0 (iI f)) ∧ zgi (zsi σ 54 0 0 (iI f)) 54 0 0 = iI f := fun f => by
      have o2 : zOnly (fun c _ k => c = 54 ∧ k = 0) σ (zsi σ 54 0 0 (iI f)) := zOnly.si ⟨rfl, rfl⟩
      exact ⟨hR.only o2 (fun c k hb => by unfold zBM at hb; omega), ⟨hC.1.only o2 (fun k => by omega), hC.2.1.only o2 ⟨by omega, fun k => by omega⟩, hC.2.2.1.only o2 ⟨by omega, by omega, fun k => by omega⟩, hC.2.2.2.only o2 ⟨by omega, by omega, by omega, fun k => by omega⟩⟩, ho.tr (o2.mono (fun c j k h => Or.inr h)), by rw [zgi_si, if_pos ⟨rfl, rfl, rfl⟩]⟩
    unfold msRun at hK
    have c20 : 5 * (nI c).toInt64 + 5 = (nI (5 * c + 5)).toInt64 := l5 c (by omega)
    refine T_X12_measures_86 ⟨fun g => S_X12_refused _ ⟨_, rfl, ?_⟩, fun g => ?_⟩
    · rw [cle] at g
      rw [if_pos g] at hK
      obtain ⟨q1, q2, q3, q4⟩ := fin 0
      exact hK _ q1 q2 q3 q4
    · rw [cle] at g
      rw [if_neg g] at hK
      rw [nI_clamp (show k < 2 ^ 31 by omega), (hS k hk).1, c20]
      refine ⟨i4, fun g2 => ?_, fun g2 => ⟨_, rfl, ?_⟩⟩
      · rw [zb_0, zbey, Decidable.not_not, tk, nI_toInt (show 5 * c + 5 < 2 ^ 31 by omega)] at g2
        rw [if_neg (fun q => q (by unfold sRe at g2 ⊢; omega))] at hK
        unfold sRe at g2
        obtain ⟨i, hi, rfl⟩ : ∃ i : Nat, i ≤ 64 ∧ ii = nI i := ⟨ii.toInt.toNat, by omega, zI_of g2.1⟩
        rw [nI_toInt (show i < 2 ^ 31 by omega)] at g2
        rw [nI_toInt (show i < 2 ^ 31 by omega), Int.toNat_natCast] at hK
        have ea : 64 * nI k + nI i + 5 * nI c = nI (64 * k + (i + 5 * c)) := by
          rw [e64, show (5 : Int32) = nI 5 from rfl, nI_mul, nI_add]
          congr 1
          omega
        have e1 : nI (64 * k + (i + 5 * c)) + 1 = nI (64 * k + (i + 5 * c + 1)) := by rw [← nI_succ]; rfl
        have e2 : nI (64 * k + (i + 5 * c)) + 2 = nI (64 * k + (i + 5 * c + 2)) := by rw [show (2 : Int32) = nI 2 from rfl, nI_add]; rfl
        have e3 : nI (64 * k + (i + 5 * c)) + 3 = nI (64 * k + (i + 5 * c + 3)) := by rw [show (3 : Int32) = nI 3 from rfl, nI_add]; rfl
        have e4 : nI (64 * k + (i + 5 * c)) + 4 = nI (64 * k + (i + 5 * c + 4)) := by rw [show (4 : Int32) = nI 4 from rfl, nI_add]; rfl
        have cl : ∀ j, j < 5 → (nI (64 * k + (i + 5 * c + j))).toNatClampNeg = 64 * k + (i + 5 * c + j) := fun j hj => nI_clamp (by omega)
        have rd : ∀ j, j < 5 → zgl σ 100 0 (64 * k + (i + 5 * c + j)) = B.2.2 k (i + 5 * c + j) := fun j hj => ((hS k hk).2 h0).2 _ (by omega)
        have vi : ∀ j, j < 5 → vp_in (nI (64 * k + (i + 5 * c + j))) 256 := fun j hj => nI_in (by omega) (by omega)
        have c0 := cl 0 (by omega)
        have r0 := rd 0 (by omega)
        have v0 := vi 0 (by omega)
        rw [Nat.add_zero] at c0 r0 v0
        rw [ea, e1, e2, e3, e4, c0, cl 1 (by omega), cl 2 (by omega), cl 3 (by omega), cl 4 (by omega), r0, rd 1 (by omega), rd 2 (by omega), rd 3 (by omega), rd 4 (by omega)]
        refine ⟨v0, vi 1 (by omega), vi 2 (by omega), vi 3 (by omega), vi 4 (by omega), S_X12_measure hW hR hC _ _ _ _ _ (fun σ1 r1 c1 o1 => ?_)⟩
        have m1 := measF_1 hW (B.2.2 k (i + 5 * c)).toInt32 (B.2.2 k (i + 5 * c + 1)).toInt32 (B.2.2 k (i + 5 * c + 2)).toInt32 (B.2.2 k (i + 5 * c + 3)).toInt32 (B.2.2 k (i + 5 * c + 4)).toInt32
        have w1 := measF_wf hW (B.2.2 k (i + 5 * c)).toInt32 (B.2.2 k (i + 5 * c + 1)).toInt32 (B.2.2 k (i + 5 * c + 2)).toInt32 (B.2.2 k (i + 5 * c + 3)).toInt32 (B.2.2 k (i + 5 * c + 4)).toInt32
        have mf : (measF A (B.2.2 k (i + 5 * c)).toInt32 (B.2.2 k (i + 5 * c + 1)).toInt32 (B.2.2 k (i + 5 * c + 2)).toInt32 (B.2.2 k (i + 5 * c + 3)).toInt32 (B.2.2 k (i + 5 * c + 4)).toInt32).1 < 0 → (measF A (B.2.2 k (i + 5 * c)).toInt32 (B.2.2 k (i + 5 * c + 1)).toInt32 (B.2.2 k (i + 5 * c + 2)).toInt32 (B.2.2 k (i + 5 * c + 3)).toInt32 (B.2.2 k (i + 5 * c + 4)).toInt32).2 = A := fun h => by
          unfold measF at h ⊢
          split
          · rfl
          · next q1 =>
            rw [if_neg q1] at h
            split
            · rfl
            · next q2 =>
              rw [if_neg q2] at h
              split
              · rfl
              · next q3 =>
                rw [if_neg q3] at h
                exact absurd h (by show ¬ ((aM A : Int) < 0); omega)
        generalize measF A (B.2.2 k (i + 5 * c)).toInt32 (B.2.2 k (i + 5 * c + 1)).toInt32 (B.2.2 k (i + 5 * c + 2)).toInt32 (B.2.2 k (i + 5 * c + 3)).toInt32 (B.2.2 k (i + 5 * c + 4)).toInt32 = X at hK r1 c1 m1 w1 mf ⊢
        have cx : (0 ≤ iI X.1) ↔ 0 ≤ X.1 := iI_le (a := 0) (by omega) (by omega)
        have oo : zOnly zMr σ0 σ1 := ho.tr (o1.mono (fun c j k h => Or.inl h))
        rw [cx]
        refine ⟨fun g3 => ?_, fun g3 => S_X12_refused _ ⟨_, rfl, ?_⟩⟩
        · rw [if_neg (by omega)] at hK
          rw [← nI_succ]
          have hS1 : zRs B σ1 := hS.of (fun j _ => o1.i 98 0 j (by unfold zMq; omega)) (fun j _ => o1.i 99 0 j (by unfold zMq; omega)) (fun j _ => o1.l 100 0 j (by unfold zMq; omega)) hB
          refine ih (c + 1) (by omega) (by omega) X.2 σ1 w1 r1 c1 hS1 oo ?_
          rw [nI_toInt (show i < 2 ^ 31 by omega)]
          exact hK
        · rw [if_pos (by omega)] at hK
          have eA := mf (by omega)
          rw [eA] at r1 c1
          have o2 : zOnly (fun c _ k => c = 54 ∧ k = 0) σ1 (zsi σ1 54 0 0 0) := zOnly.si ⟨rfl, rfl⟩
          exact hK _ (r1.only o2 (fun c k hb => by unfold zBM at hb; omega)) ⟨c1.1.only o2 (fun k => by omega), c1.2.1.only o2 ⟨by omega, fun k => by omega⟩, c1.2.2.1.only o2 ⟨by omega, by omega, fun k => by omega⟩, c1.2.2.2.only o2 ⟨by omega, by omega, by omega, fun k => by omega⟩⟩ (oo.tr (o2.mono (fun c j k h => Or.inr h))) (by rw [zgi_si, if_pos ⟨rfl, rfl, rfl⟩]; rfl)
      · rw [zb_0, zbey, Decidable.not_not, tk, nI_toInt (show 5 * c + 5 < 2 ^ 31 by omega)] at g2
        rw [if_pos (fun q => g2 (by unfold sRe at q ⊢; omega))] at hK
        obtain ⟨q1, q2, q3, q4⟩ := fin 3
        exact hK _ q1 q2 q3 q4
theorem O_X12_measures {K : Int32 → zSt → Prop} (hW : zWf A) (hR : zRM A σ) (hC : zCM A σ) (hB : zWs B) (hS : zRs B σ) (a l i n : Int32) (hno : ¬ shI a → K (-1) (zsi σ 54 0 0 0)) (hout : shI a → ¬ shI l → K (-2) (zsi σ 54 0 0 0)) (hcast : ∀ k, k < 4 → a = nI k → shI l → 0 ≤ B.1 k → B.2.1 k ≠ l.toInt → K (-12) (zsi σ 54 0 0 2)) (hnull : ∀ k, k < 4 → a = nI k → shI l → B.1 k < 0 → K (-11) (zsi σ 54 0 0 1))
    (hneg : ∀ k, k < 4 → a = nI k → shI l → 0 ≤ B.1 k → B.2.1 k = l.toInt → n.toInt < 0 → K (-14) (zsi σ 54 0 0 4))
    (hyes : ∀ k, k < 4 → a = nI k → shI l → 0 ≤ B.1 k → B.2.1 k = l.toInt → 0 ≤ n.toInt → ∀ σ', zRM (msRun B k i.toInt n.toInt 20 0 A).2.2 σ' → zCM (msRun B k i.toInt n.toInt 20 0 A).2.2 σ' → zOnly zMr σ σ' → zgi σ' 54 0 0 = iI (msRun B k i.toInt n.toInt 20 0 A).2.1 → K (iI (msRun B k i.toInt n.toInt 20 0 A).1) σ') : zCi true (d + 4) 0 0 M_X12_measures [.inr (.inr (54, 0)), .inl (a), .inl (l), .inl (i), .inl (n)] σ K := by
  have hl : (0 ≤ l.toInt64 ∧ l.toInt64 ≤ 3) ↔ shI l := zin_c l (l := 0) (h := 3) (by omega) (by omega)
  have rn := fb_rng n
  have n0 : (0 ≤ n) ↔ 0 ≤ n.toInt := by rw [Int32.le_iff_toInt_le]; rfl
  refine zC_intro pl_X12 (Nat.le_of_ble_eq_true rfl) (T_X12_measures_0 (S_X12_noSheet a ⟨fun h => ⟨fun h2 => ?_, fun h2 => S_X12_refused _ ⟨_, rfl, hout ?_ ?_⟩⟩, fun h => S_X12_refused _ ⟨_, rfl, hno ?_⟩⟩))
  · rw [zb_0, Decidable.not_not] at h
    rw [zb_0, Decidable.not_not, hl] at h2
    obtain ⟨k, hk, rfl⟩ := shI_nI h
    have hr := ws_rng hB hk
    have hw := hB k hk
    have i4 : vp_in (nI k) 4 := nI_in (by omega) (by omega)
    have cn : (iI (B.1 k) < 0) ↔ B.1 k < 0 := iI_lt (b := 0) (by omega) (by omega)
    have cp : (0 ≤ iI (B.1 k)) ↔ 0 ≤ B.1 k := iI_le (a := 0) (by omega) (by omega)
    rw [nI_clamp (show k < 2 ^ 31 by omega), (hS k hk).1]
    refine ⟨i4, fun _ => i4, fun g => T_X12_measures_57 ?_, fun g => S_X12_failed _ ⟨_, rfl, ?_⟩⟩
    · rw [nI_clamp (show k < 2 ^ 31 by omega), (hS k hk).1]
      refine ⟨i4, fun g1 => ⟨fun g2 => ?_, fun g2 => S_X12_failed _ ⟨_, rfl, ?_⟩⟩, fun g1 => S_X12_failed _ ⟨_, rfl, hnull k hk rfl h2 ?_⟩⟩
      · rw [cp] at g1
        rw [n0] at g2
        have hla : B.2.1 k = l.toInt := by
          rcases g with g | g
          · rw [cn] at g; omega
          · rw [((hS k hk).2 g1).1, ← iI_of l, iI_eqI (by omega) (by have := fb_rng l; omega)] at g
            exact g
        have := L_X12_measures (d := d) (kc := 0) (ks := 0) (B := B) (n := n.toInt) hB hk g1 ⟨g2, rn.2⟩ i (σ0 := σ) (K := K) 20 0 rfl (by omega) A σ hW hR hC hS zOnly.rf (hyes k hk rfl h2 g1 hla g2)
        rw [iI_of] at this
        exact this
      · rw [cp] at g1
        rw [n0] at g2
        have hla : B.2.1 k = l.toInt := by
          rcases g with g | g
          · rw [cn] at g; omega
          · rw [((hS k hk).2 g1).1, ← iI_of l, iI_eqI (by omega) (by have := fb_rng l; omega)] at g
            exact g
        exact hneg k hk rfl h2 g1 hla (by omega)
      · rw [cp] at g1
        omega
    · have g1 : ¬ B.1 k < 0 := fun q => g (Or.inl (cn.mpr q))
      refine hcast k hk rfl h2 (by omega) (fun q => g (Or.inr ?_))
      rw [((hS k hk).2 (by omega)).1, q, iI_of]
  · rw [zb_0, Decidable.not_not] at h
    exact h
  · rw [zb_0, hl] at h2
    exact h2
  · rw [zb_0, Decidable.not_not] at h
    exact h
end zMj
