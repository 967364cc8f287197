/-! flips (reference): a part, its hinges, what it moves -/
section zMy
variable {d kc ks : Nat} {σ : zSt} {A : zAb} {Q : Option zV → zSt → Prop}
theorem yset_rs {t j : Nat} {b : Int} (hj : j < 32) (hb : b < 32) {x : Int32} (hx : x = if 0 ≤ b then (zishl 1 (iI b)) ^^^ (-1) else (-1)) : (yset (grB A t) 32 &&& ((zishl 1 (nI j)) ^^^ (-1))) &&& x = yset (rsB A t j b) 32 := yset_eq (fun i hi => by
  have e1 : bt x i = !decide ((i : Int) = b) := by
    rw [hx]
    by_cases z : 0 ≤ b
    · obtain ⟨n, rfl⟩ : ∃ n : Nat, b = (n : Int) := ⟨b.toNat, by omega⟩
      rw [if_pos z, iI_nat, bt_not _ hi, bt_bit (by omega)]
      congr 1
      rw [decide_eq_decide]
      omega
    · rw [if_neg z, b_m1 i hi, decide_eq_false (by omega)]
      rfl
  rw [b_and, b_and, bt_set hi, bt_not _ hi, bt_bit hj, e1]
  rfl)
theorem L_X12_part53 (hW : zWf A) (hR : zRM A σ) {t : Nat} {w p0 : Nat → Bool} (hnext : ∀ p : Nat → Bool, (∀ i, p0 i = true → p i = true) → (∀ i, p i = true → zCls (lkP A (fun x => w x = true)) t i) → ((∀ i, i < 32 → p i = p0 i) → ∀ m, m < aM A → mO A m = true → w (mA A m) = true → w (mB A m) = true → (p (mA A m) = true ↔ p (mB A m) = true)) → zE true (d + 2) kc ks M_X12_partOf 41 [some (.inr (.inr (54, 0))), none, some (.inl (yset w 32)), some (.inl (yset p 32)), some (.inl (yset p0 32)), none] [] σ Q) : ∀ (n k : Nat), k + n = aM A → ∀ p : Nat → Bool, (∀ i, p0 i = true → p i = true) → (∀ i, p i = true → zCls (lkP A (fun x => w x = true)) t i) → ((∀ i, i < 32 → p i = p0 i) → ∀ m, m < k → mO A m = true → w (mA A m) = true → w (mB A m) = true → (p (mA A m) = true ↔ p (mB A m) = true)) → zE true (d + 2) kc ks M_X12_partOf 53 [some (.inr (.inr (54, 0))), none, some (.inl (yset w 32)), some (.inl (yset p 32)), some (.inl (yset p0 32)), some (.inl (nI k))] [] σ Q := by
  have hM : aM A ≤ 60 := hW.1.2.2.2.2.2.1
  have hN : aN A ≤ 24 := hW.1.2.2.2.2.1
  intro n
  induction n with
  | zero =>
    intro k hk p h1 h2 h3
    have : k = aM A := by omega
    subst this
    exact T_X12_partOf_53 ⟨fun _ => hnext p h1 h2 h3, fun h => absurd (by rw [hR.1.2.2.2.1]; exact Int32.le_refl _) h⟩
  | succ n ih =>
    intro k hk p h1 h2 h3
    have hkM : k < aM A := by omega
    obtain ⟨r1, r2, r3, r4, r5, r6⟩ := hR.2.2.1 k hkM
    obtain ⟨w1, w2, w3, w4⟩ := hW.2.2.1 k hkM
    have i60 : vp_in (nI k) 60 := nI_in (by omega) (by omega)
    have next : ∀ p' : Nat → Bool, p' = gSt A w k p → zE true (d + 2) kc ks M_X12_partOf 53 [some (.inr (.inr (54, 0))), none, some (.inl (yset w 32)), some (.inl (yset p' 32)), some (.inl (yset p0 32)), some (.inl ((nI k + 1)))] [] σ Q := by
      intro p' e
      rw [← nI_succ]
      subst e
      refine ih (k + 1) (by omega) _ (fun i hi => gSt_up (h1 i hi)) (gSt_in hkM h2) (fun he m hm => ?_)
      have hsame : ∀ i, i < 32 → p i = p0 i := fun i hi => by
        have g := he i hi
        by_cases z : p i = true
        · rw [gSt_up z] at g
          rw [z]; exact g
        · by_cases z2 : p0 i = true
          · exact absurd (h1 i z2) z
          · rw [Bool.not_eq_true] at z z2
            rw [z, z2]
      have hfix : ∀ i, i < 32 → gSt A w k p i = p i := fun i hi => by rw [he i hi, hsame i hi]
      by_cases z : m = k
      · subst z
        intro a1 a2 a3
        rw [hfix _ (by omega), hfix _ (by omega)]
        exact gSt_fix (by omega) (by omega) hfix a1 a2 a3
      · intro a1 a2 a3
        obtain ⟨q1, q2, q3, q4⟩ := hW.2.2.1 m (by omega)
        rw [hfix _ (by omega), hfix _ (by omega)]
        exact h3 hsame m (by omega) a1 a2 a3
    refine T_X12_partOf_53 ⟨fun g => ?_, fun _ => ?_⟩
    · rw [hR.1.2.2.2.1, nI_leI (by omega) (by omega)] at g
      omega
    · rw [nI_clamp (show k < 2 ^ 31 by omega), r2, r3, r6, zy_b1 (by omega), zy_b1 (by omega), zy_b1 (by omega), zy_b1 (by omega)]
      refine ⟨i60, fun _ => i60, fun _ _ => i60, fun _ _ _ => i60, fun _ _ _ _ => i60, fun g => ?_, fun g => T_X12_partOf_132 ?_⟩
      · rw [zb_0, zb_0, zb_0, zb_0, zb_0] at g
        refine next p ?_
        unfold gSt
        rw [if_neg]
        rintro ⟨q1, q2, q3, q4⟩
        rcases g with g | g | g | g
        · exact g q1
        · exact g q2
        · exact g q3
        · exact q4.elim g.1 g.2
      · rw [zb_0, zb_0, zb_0, zb_0, zb_0] at g
        rw [nI_clamp (show k < 2 ^ 31 by omega), r2, r3, yset_ad (by omega) (by omega)]
        refine ⟨i60, i60, next _ ?_⟩
        unfold gSt
        rw [if_pos]
        refine ⟨Decidable.not_not.mp (fun z => g (Or.inl z)), Decidable.not_not.mp (fun z => g (Or.inr (Or.inl z))), Decidable.not_not.mp (fun z => g (Or.inr (Or.inr (Or.inl z)))), ?_⟩
        by_cases z : p (mA A k) = true
        · exact Or.inl z
        · by_cases z2 : p (mB A k) = true
          · exact Or.inr z2
          · exact absurd (Or.inr (Or.inr (Or.inr ⟨z, z2⟩))) g
theorem L_X12_part41 (hW : zWf A) (hR : zRM A σ) {t : Nat} {w : Nat → Bool} (hQ : ∀ p : Nat → Bool, (∀ i, i < 32 → (p i = true ↔ zCls (lkP A (fun x => w x = true)) t i)) → Q (some (.inl (yset p 32))) σ) : ∀ (n : Nat) (p p0 : Nat → Bool), 32 - fb_ct p 32 ≤ n → p t = true → (∀ i, p0 i = true → p i = true) → (∀ i, p i = true → zCls (lkP A (fun x => w x = true)) t i) → ((∀ i, i < 32 → p i = p0 i) → ∀ m, m < aM A → mO A m = true → w (mA A m) = true → w (mB A m) = true → (p (mA A m) = true ↔ p (mB A m) = true)) → zE true (d + 2) kc ks M_X12_partOf 41 [some (.inr (.inr (54, 0))), none, some (.inl (yset w 32)), some (.inl (yset p 32)), some (.inl (yset p0 32)), none] [] σ Q := by
  have fin : ∀ (p p0 : Nat → Bool), p t = true → (∀ i, p i = true → zCls (lkP A (fun x => w x = true)) t i) → ((∀ i, i < 32 → p i = p0 i) → ∀ m, m < aM A → mO A m = true → w (mA A m) = true → w (mB A m) = true → (p (mA A m) = true ↔ p (mB A m) = true)) → yset p0 32 = yset p 32 → Q (some (.inl (yset p 32))) σ := by
    intro p p0 h0 h2 h3 e
    have he : ∀ i, i < 32 → p i = p0 i := fun i hi => (yset_inj.mp e i hi).symm
    exact hQ p (fun i hi => ⟨h2 i, fun q => gSt_end h0 (h3 he) q⟩)
  intro n
  induction n with
  | zero =>
    intro p p0 hn h0 h1 h2 h3
    have hall : ∀ i, i < 32 → p i = true := fb_ct_all.mp (by have := fb_ct_le p 32; omega)
    refine T_X12_partOf_41 ⟨fun e => fin p p0 h0 h2 h3 e, fun _ => L_X12_part53 hW hR (t := t) (w := w) (p0 := p) (fun q g1 g2 g3 => T_X12_partOf_41 ⟨fun e => fin q p (g1 t h0) g2 g3 e, fun e => ?_⟩) (aM A) 0 (by omega) p (fun _ h => h) h2 (fun _ m hm => absurd hm (Nat.not_lt_zero m))⟩
    exact absurd (yset_cong (fun i hi => by rw [hall i hi, g1 i (hall i hi)])) e
  | succ n ih =>
    intro p p0 hn h0 h1 h2 h3
    refine T_X12_partOf_41 ⟨fun e => fin p p0 h0 h2 h3 e, fun _ => L_X12_part53 hW hR (t := t) (w := w) (p0 := p) (fun q g1 g2 g3 => ?_) (aM A) 0 (by omega) p (fun _ h => h) h2 (fun _ m hm => absurd hm (Nat.not_lt_zero m))⟩
    by_cases e : yset p 32 = yset q 32
    · exact T_X12_partOf_41 ⟨fun e => fin q p (g1 t h0) g2 g3 e, fun z => absurd e z⟩
    · refine ih q p ?_ (g1 t h0) g1 g2 g3
      have : ∃ i, i < 32 ∧ ¬ (p i = q i) := by
        by_cases z : ∀ i, i < 32 → p i = q i
        · exact absurd (yset_cong z) e
        · obtain ⟨i, hi⟩ := Classical.not_forall.mp z
          obtain ⟨a, b⟩ := Classical.not_imp.mp hi
          exact ⟨i, a, b⟩
      obtain ⟨i, hi, hne⟩ := this
      have hq : q i = true := by
        by_cases z : p i = true
        · exact absurd (z.trans (g1 i z).symm) hne
        · by_cases z2 : q i = true
          · exact z2
          · rw [Bool.not_eq_true] at z z2
            exact absurd (z.trans z2.symm) hne
      have hp : p i = false := by
        by_cases z : p i = true
        · exact absurd (z.trans hq.symm) hne
        · simpa using z
      have := fb_ct_lt (p := q) (q := p) (fun c _ hc => g1 c hc) hi hq hp
      have := fb_ct_le q 32
      omega
theorem S_X12_partOf {K : Int32 → zSt → Prop} (hW : zWf A) (hR : zRM A σ) {t j u : Nat} {b : Int} (hF : zFj A σ j b) (hg : zgi σ 54 0 53 = yset (grB A t) 32) (hu : u < 24) (hK : K (yset (ptB A (rsB A t j b) u) 32) σ) : zCi true (d + 2) 0 0 M_X12_partOf [.inr (.inr (54, 0)), .inl (nI u)] σ K := by
  have hN : aN A ≤ 24 := hW.1.2.2.2.2.1
  obtain ⟨f1, f2, f3, f4, f5, f6, f7⟩ := hF
  have cb : (0 ≤ iI b) ↔ 0 ≤ b := iI_le (a := 0) (by omega) (by omega)
  refine zC_intro pl_X12 (Nat.le_of_ble_eq_true rfl) (T_X12_partOf_0 (fun x hx => ?_))
  rw [f1, hg]
  rw [f2] at hx
  have ex : x = if 0 ≤ b then (zishl 1 (iI b)) ^^^ (-1) else (-1) := by
    rw [hx]
    by_cases z : 0 ≤ b
    · rw [if_pos z, if_pos (cb.mpr z)]
    · rw [if_neg z, if_neg (fun q => z (cb.mp q))]
  rw [yset_rs (by omega) (by omega) ex, yset_one (by omega)]
  have e0 : (0 : Int32) = yset (fun _ => false) 32 := yset_eq (fun i hi => by rw [b_0])
  have := L_X12_part41 (d := d) (kc := 0) (ks := 0) (Q := fun r σ' => ∃ x, r = some (.inl x) ∧ K x σ') hW hR (t := u) (w := rsB A t j b) (fun p hp => ⟨_, rfl, by
    have e : yset p 32 = yset (ptB A (rsB A t j b) u) 32 := yset_cong (fun i hi => Bool.eq_iff_iff.mpr ((hp i hi).trans ptB_iff.symm))
    rw [e]
    exact hK⟩) 32 (fun i => decide (i = u)) (fun _ => false) (by omega) (by simp) (fun i h => by cases h) (fun i hi => by rw [decide_eq_true_eq] at hi; rw [hi]; exact zCls.rf) (fun he => by
    have := he u (by omega)
    simp at this)
  rw [← e0] at this
  exact this
theorem S_X12_isJoint {ph : Bool} {K : Int32 → zSt → Prop} {j u : Nat} {b : Int} (h1 : zgi σ 54 0 54 = nI j) (h2 : zgi σ 54 0 55 = iI b) (hj : j < 24) (hb : -1 ≤ b ∧ b < 24) (hu : u < 24) (hK : K (zb (u = j ∨ (u : Int) = b)) σ) : zCi ph (d + 1) 0 0 M_X12_isJoint [.inr (.inr (54, 0)), .inl (nI u)] σ K := by
  refine zC_intro pl_X12 (Nat.le_of_ble_eq_true rfl) (T_X12_isJoint_0 (fun x hx => ⟨_, rfl, ?_⟩))
  rw [hx, zb_of1 (P := u = j ∨ (u : Int) = b) ?_]
  · exact hK
  · rw [h1, h2, nI_eq (by omega) (by omega), ← iI_nat, iI_eqI (by omega) (by omega)]
theorem L_X12_hinged (hW : zWf A) (hR : zRM A σ) {p : Nat → Bool} {j : Nat} {b : Int} (hF : zFj A σ j b) (h56 : zgi σ 54 0 56 = yset p 32) (hQ : Q (some (.inl (zb (hgB A p j b = true)))) σ) : ∀ (n k : Nat), k + n = aM A → ∀ v1 v2 v3 : Int32, v1 = zb ((!aAny (fun m => hgD A p m && !(decide (hgO A p m = j) || decide ((hgO A p m : Int) = b))) k) = true) → v2 = zb (aAny (fun m => hgD A p m && decide (hgO A p m = j)) k = true) → v3 = zb ((decide (b < 0) || aAny (fun m => hgD A p m && decide ((hgO A p m : Int) = b)) k) = true) → zE true (d + 2) kc ks M_X12_isHinged 20 [some (.inr (.inr (54, 0))), some (.inl (v1)), some (.inl (v2)), some (.inl (v3)), some (.inl (nI k)), none, none, none] [] σ Q := by
  have hM : aM A ≤ 60 := hW.1.2.2.2.2.2.1
  have hN : aN A ≤ 24 := hW.1.2.2.2.2.1
  obtain ⟨f1, f2, f3, f4, f5, f6, f7⟩ := hF
  intro n
  induction n with
  | zero =>
    intro k hk v1 v2 v3 h1 h2 h3
    have : k = aM A := by omega
    subst this
    refine T_X12_isHinged_20 ⟨fun _ x hx => ?_, fun h => absurd (by rw [hR.1.2.2.2.1]; exact Int32.le_refl _) h⟩
    have ex : x = zb (hgB A p j b = true) := by
      rw [hx]
      apply zb_of0
      rw [h1, h2, h3, zb_0, zb_0, zb_0]
      unfold hgB
      rw [Bool.and_eq_true, Bool.and_eq_true]
      generalize (!aAny (fun m => hgD A p m && !(decide (hgO A p m = j) || decide ((hgO A p m : Int) = b))) (aM A)) = X
      generalize aAny (fun m => hgD A p m && decide (hgO A p m = j)) (aM A) = Y
      generalize (decide (b < 0) || aAny (fun m => hgD A p m && decide ((hgO A p m : Int) = b)) (aM A)) = Z
      cases X <;> cases Y <;> cases Z <;> simp
    rw [ex]
    exact hQ
  | succ n ih =>
    intro k hk v1 v2 v3 h1 h2 h3
    have hkM : k < aM A := by omega
    obtain ⟨r1, r2, r3, r4, r5, r6⟩ := hR.2.2.1 k hkM
    obtain ⟨w1, w2, w3, w4⟩ := hW.2.2.1 k hkM
    have i60 : vp_in (nI k) 60 := nI_in (by omega) (by omega)
    have stay : hgD A p k = false → zE true (d + 2) kc ks M_X12_isHinged 20 [some (.inr (.inr (54, 0))), some (.inl (v1)), some (.inl (v2)), some (.inl (v3)), some (.inl ((nI k + 1))), none, none, none] [] σ Q := fun q => by
      rw [← nI_succ]
      refine ih (k + 1) (by omega) v1 v2 v3 ?_ ?_ ?_
      · rw [h1]
        exact zb_iff (by rw [aAny, q, Bool.false_and, Bool.or_false])
      · rw [h2]
        exact zb_iff (by rw [aAny, q, Bool.false_and, Bool.or_false])
      · rw [h3]
        exact zb_iff (by rw [aAny, q, Bool.false_and, Bool.or_false])
    refine T_X12_isHinged_20 ⟨fun g => ?_, fun _ => ?_⟩
    · rw [hR.1.2.2.2.1, nI_leI (by omega) (by omega)] at g
      omega
    · rw [nI_clamp (show k < 2 ^ 31 by omega), r2, r3, r6, h56, zy_b1 (by omega), zy_b1 (by omega), zb_0]
      have eqz : (zb (p (mA A k) = true) = zb (p (mB A k) = true)) ↔ p (mA A k) = p (mB A k) := by
        by_cases z : p (mA A k) = true
        · by_cases z2 : p (mB A k) = true
          · simp [z, z2]
          · simp [zb, z, z2]
        · by_cases z2 : p (mB A k) = true
          · simp [zb, z, z2]
          · simp [zb, z, z2]
      rw [eqz]
      refine ⟨i60, i60, i60, fun g => stay ?_, fun g => ⟨fun g2 => stay ?_, fun g2 => ⟨fun _ => i60, fun _ => i60, fun x hx => ?_⟩⟩⟩
      · unfold hgD
        rw [Bool.not_eq_true] at g
        rw [g, Bool.false_and]
      · unfold hgD
        rw [g2]
        simp
      · have hD : hgD A p k = true := by
          unfold hgD
          rw [Decidable.not_not.mp g]
          simpa using g2
        have hO : hgO A p k < aN A := by
          unfold hgO
          split
          · exact w3
          · exact w2
        have ex : x = nI (hgO A p k) := by
          rw [hx]
          unfold hgO
          by_cases z : p (mA A k) = true
          · rw [if_neg (by rw [zb_0]; exact fun q => q z), if_pos z]
          · rw [if_pos (by rw [zb_0]; exact z), if_neg z]
        rw [ex]
        have rest : ∀ w0 : Int32, w0 = zb ((!aAny (fun m => hgD A p m && !(decide (hgO A p m = j) || decide ((hgO A p m : Int) = b))) (k + 1)) = true) → zE true (d + 2) kc ks M_X12_isHinged 122 [some (.inr (.inr (54, 0))), none, some (.inl (v2)), some (.inl (v3)), some (.inl (nI k)), none, none, some (.inl (nI (hgO A p k)))] [.inl (w0)] σ Q := fun w0 hw0 => T_X12_isHinged_122 (fun y hy => T_X12_isHinged_141 (fun z hz => T_X12_isHinged_160 (by
          rw [← nI_succ]
          refine ih (k + 1) (by omega) w0 y z hw0 ?_ ?_
          · rw [hy]
            apply zb_of1
            rw [h2, zb_0, Decidable.not_not, f1, nI_eq (by omega) (by omega), aAny, hD, Bool.true_and, Bool.or_eq_true, decide_eq_true_eq]
          · rw [hz]
            apply zb_of1
            rw [h3, zb_0, Decidable.not_not, f2, ← iI_nat, iI_eqI (by omega) (by omega), aAny, hD, Bool.true_and, ← Bool.or_assoc, Bool.or_eq_true _ (decide _), decide_eq_true_eq])))
        refine T_X12_isHinged_102 ⟨fun g3 => T_X12_isHinged_121 (rest 0 ?_), fun g3 => S_X12_isJoint f1 f2 (by omega) (by omega) (by omega) (fun y hy => rest y ?_)⟩
        · rw [h1, zb_0, Bool.not_eq_true', Bool.not_eq_false] at g3
          symm
          rw [zb_0, aAny, g3]
          simp
        · rw [h1, zb_0, Decidable.not_not, Bool.not_eq_true'] at g3
          rw [hy]
          apply zb_of0
          rw [zb_0, aAny, g3, hD, Bool.false_or, Bool.true_and, Bool.not_not, Bool.or_eq_true, decide_eq_true_eq, decide_eq_true_eq]
theorem S_X12_isHinged {K : Int32 → zSt → Prop} (hW : zWf A) (hR : zRM A σ) {p : Nat → Bool} {j : Nat} {b : Int} (hF : zFj A σ j b) (h56 : zgi σ 54 0 56 = yset p 32) (hK : K (zb (hgB A p j b = true)) σ) : zCi true (d + 2) 0 0 M_X12_isHinged [.inr (.inr (54, 0))] σ K := by
  have hN : aN A ≤ 24 := hW.1.2.2.2.2.1
  have f := hF
  obtain ⟨f1, f2, f3, f4, f5, f6, f7⟩ := hF
  have cb : (0 ≤ iI b) ↔ 0 ≤ b := iI_le (a := 0) (by omega) (by omega)
  refine zC_intro pl_X12 (Nat.le_of_ble_eq_true rfl) (T_X12_isHinged_0 (fun x hx => ?_))
  rw [f2] at hx
  refine L_X12_hinged (A := A) (Q := fun r σ' => ∃ x, r = some (.inl x) ∧ K x σ') hW hR f h56 ⟨_, rfl, hK⟩ (aM A) 0 (by omega) 1 0 x rfl rfl ?_
  rw [hx]
  apply zb_of0
  rw [cb]
  show 0 ≤ b ↔ ¬ ((decide (b < 0) || false) = true)
  rw [Bool.or_false, decide_eq_true_eq]
  omega
end zMy
