/-! check; ways of movers (reference) -/
def ck1 (A : zAb) (t : Nat) : Bool := decide (0 ≤ aMp A t) && !atold A t (aMp A t).toNat
def ck2 (A : zAb) (t : Nat) : Bool := decide (0 ≤ aMp A t) && aAny (fun u => decide (0 ≤ aMp A u) && decide (aMp A u = aMp A t)) t
def ck3 (A : zAb) (m : Nat) : Bool := mO A m && decide (0 ≤ aMp A (mA A m)) && decide (0 ≤ aMp A (mB A m)) && !kept A m (aMp A (mA A m)).toNat (aMp A (mB A m)).toNat
def ckV (A : zAb) : Int := if 0 ≤ zfst (ck1 A) (aN A) then -100 - zfst (ck1 A) (aN A) else if aAl A = true ∧ 0 ≤ zfst (ck2 A) (aN A) then -200 - zfst (ck2 A) (aN A) else if 0 ≤ zfst (ck3 A) (aM A) then -20 - zfst (ck3 A) (aM A) else 1
theorem aMp_r {A : zAb} (hW : zWf A) {t : Nat} (ht : t < aN A) : (-9 ≤ aMp A t ∧ aMp A t < 64) ∧ (0 ≤ aMp A t → ∃ c : Nat, aMp A t = (c : Int) ∧ c < 64 ∧ acell A c = true) ∧ (¬ 0 ≤ aMp A t → aMp A t = -9) := by
  rcases (hW.2.1 t ht).2.2.2.2.2.2.2.1 with q | ⟨c, q, q2⟩
  · exact ⟨by omega, fun h => by omega, fun _ => q⟩
  · have := acell_64 q2
    exact ⟨by omega, fun _ => ⟨c, q, this, q2⟩, fun h => by omega⟩
section zMv
variable {d kc ks : Nat} {σ : zSt} {A : zAb} {Q : Option zV → zSt → Prop}
theorem cMp (hW : zWf A) (hR : zRM A σ) {t : Nat} (ht : t < aN A) : (zgi σ 62 0 t < 0) ↔ ¬ 0 ≤ aMp A t := by
  have r := (aMp_r hW ht).1
  rw [(hR.2.1 t ht).2.2.2.2.2.2.2.2.2, show (0 : Int32) = iI 0 from rfl, iI_lt (by omega) (by omega)]
  omega
theorem vMp (hW : zWf A) (hR : zRM A σ) {t : Nat} (ht : t < aN A) (h : 0 ≤ aMp A t) : zgi σ 62 0 t = nI (aMp A t).toNat ∧ (aMp A t).toNat < 64 := by
  have r := (aMp_r hW ht).1
  rw [(hR.2.1 t ht).2.2.2.2.2.2.2.2.2]
  refine ⟨?_, by omega⟩
  rw [← iI_nat]
  congr 1
  omega
theorem L_X12_lesser (hW : zWf A) (hR : zRM A σ) {t : Nat} (ht : t < aN A) (hQ : Q (some (.inl (zb (aAny (fun u => decide (0 ≤ aMp A u) && decide (aMp A u = aMp A t)) t = true)))) σ) : ∀ (n k : Nat), k + n = t → ∀ v : Int32, v = zb (aAny (fun u => decide (0 ≤ aMp A u) && decide (aMp A u = aMp A t)) k = true) → zE true (d + 1) kc ks M_X12_hasLesserThere 4 [some (.inr (.inr (54, 0))), some (.inl (nI t)), some (.inl (v)), some (.inl (nI k))] [] σ Q := by
  have hN : aN A ≤ 24 := hW.1.2.2.2.2.1
  intro n
  induction n with
  | zero =>
    intro k hk v hv
    have : k = t := by omega
    subst this
    subst hv
    exact T_X12_hasLesserThere_4 ⟨fun _ => ⟨zb_01, hQ⟩, fun h => absurd (Int32.le_refl _) h⟩
  | succ n ih =>
    intro k hk v hv
    have ik : vp_in (nI k) 24 := nI_in (by omega) (by omega)
    refine T_X12_hasLesserThere_4 ⟨fun g => ?_, fun _ => ⟨fun _ => ik, fun _ _ => ik, fun _ _ => nI_in (by omega) (by omega), fun x hx => ?_⟩⟩
    · rw [nI_leI (by omega) (by omega)] at g
      omega
    · rw [← nI_succ]
      refine ih (k + 1) (by omega) x ?_
      have r1 := (aMp_r hW (show k < aN A by omega)).1
      have r2 := (aMp_r hW ht).1
      rw [hx, nI_clamp (show k < 2 ^ 31 by omega), nI_clamp (show t < 2 ^ 31 by omega)]
      apply zb_of1
      rw [cMp hW hR (by omega), (hR.2.1 k (by omega)).2.2.2.2.2.2.2.2.2, (hR.2.1 t ht).2.2.2.2.2.2.2.2.2, iI_eqI (by omega) (by omega), hv, zb_0, Decidable.not_not, Decidable.not_not]
      rw [aAny, Bool.or_eq_true, Bool.and_eq_true, decide_eq_true_eq, decide_eq_true_eq]
theorem S_X12_hasLesserThere {K : Int32 → zSt → Prop} (hW : zWf A) (hR : zRM A σ) {t : Nat} (ht : t < aN A) (hK : K (zb (aAny (fun u => decide (0 ≤ aMp A u) && decide (aMp A u = aMp A t)) t = true)) σ) : zCi true (d + 1) 0 0 M_X12_hasLesserThere [.inr (.inr (54, 0)), .inl (nI t)] σ K :=
  zC_intro pl_X12 (Nat.le_of_ble_eq_true rfl) (T_X12_hasLesserThere_0 (L_X12_lesser hW hR ht ⟨_, rfl, hK⟩ t 0 (Nat.zero_add t) 0 rfl))
theorem L_X12_check99 (hW : zWf A) (hR : zRM A σ) (hL : ∀ m, m < aM A → zLd A σ m) (hQ : Q (some (.inl (iI (if 0 ≤ zfst (ck3 A) (aM A) then -20 - zfst (ck3 A) (aM A) else 1)))) σ) : ∀ (n k : Nat), k + n = aM A → (∀ i, i < k → ck3 A i = false) → zE true (d + 7) kc ks M_X12_check 99 [some (.inr (.inr (54, 0))), some (.inl (nI k)), none] [] σ Q := by
  have hM : aM A ≤ 60 := hW.1.2.2.2.2.2.1
  have hN : aN A ≤ 24 := hW.1.2.2.2.2.1
  intro n
  induction n with
  | zero =>
    intro k hk h
    have : k = aM A := by omega
    subst this
    rw [zfst_none.mpr h, if_neg (by omega)] at hQ
    exact T_X12_check_99 ⟨fun _ => hQ, fun h => absurd (by rw [hR.1.2.2.2.1]; exact Int32.le_refl _) h⟩
  | succ n ih =>
    intro k hk h
    have hkM : k < aM A := by omega
    obtain ⟨r1, r2, r3, r4, r5, r6⟩ := hR.2.2.1 k hkM
    obtain ⟨w1, w2, w3, w4⟩ := hW.2.2.1 k hkM
    have i60 : vp_in (nI k) 60 := nI_in (by omega) (by omega)
    have ia : vp_in (nI (mA A k)) 24 := nI_in (by omega) (by omega)
    have ib : vp_in (nI (mB A k)) 24 := nI_in (by omega) (by omega)
    refine T_X12_check_99 ⟨fun g => ?_, fun _ => ?_⟩
    · rw [hR.1.2.2.2.1, nI_leI (by omega) (by omega)] at g
      omega
    · rw [nI_clamp (show k < 2 ^ 31 by omega), r2, r3, r6, nI_clamp (show mA A k < 2 ^ 31 by omega), nI_clamp (show mB A k < 2 ^ 31 by omega)]
      refine ⟨i60, fun _ => i60, fun _ => ia, fun _ _ => i60, fun _ _ => ib, fun x hx => ?_⟩
      have ex : x = 0 ↔ ¬ (mO A k = true ∧ 0 ≤ aMp A (mA A k) ∧ 0 ≤ aMp A (mB A k)) := by
        rw [hx, zb_of0 (P := mO A k = true ∧ 0 ≤ aMp A (mA A k) ∧ 0 ≤ aMp A (mB A k)) ?_, zb_0]
        rw [zb_0, cMp hW hR w2, cMp hW hR w3]
        by_cases z : mO A k = true
        · simp only [z, not_true_eq_false, false_or, true_and]; omega
        · simp [z]
      have dn : ∀ (P : Prop), (¬ x = 0 → mO A k = true ∧ 0 ≤ aMp A (mA A k) ∧ 0 ≤ aMp A (mB A k)) := fun _ z => Decidable.not_not.mp (fun q => z (ex.mpr q))
      refine ⟨fun _ => i60, fun _ => ia, fun z => ?_, fun _ => i60, fun _ => ib, fun z => ?_, fun z => ?_⟩
      · obtain ⟨_, z2, _⟩ := dn True z
        obtain ⟨e1, e2⟩ := vMp hW hR w2 z2
        rw [e1, e64]
        exact nI_in (by omega) (by omega)
      · rw [← nI_succ]
        refine ih (k + 1) (by omega) (fun i hi => ?_)
        by_cases e : i = k
        · subst e
          by_cases q : x = 0
          · have := ex.mp q
            unfold ck3
            refine Bool.eq_false_iff.mpr (fun v => this ?_)
            rw [Bool.and_eq_true, Bool.and_eq_true, Bool.and_eq_true, decide_eq_true_eq, decide_eq_true_eq] at v
            exact ⟨v.1.1.1, v.1.1.2, v.1.2⟩
          · obtain ⟨q1, q2, q3⟩ := dn True q
            obtain ⟨e1, e2⟩ := vMp hW hR w2 q2
            obtain ⟨e3, e4⟩ := vMp hW hR w3 q3
            have z2 := z.resolve_left q
            rw [e1, e3, e64, nI_clamp (by omega), (hL i hkM _ e2).1, zl_b1 e4, zb_0, Decidable.not_not] at z2
            unfold ck3
            rw [z2]
            simp
        · exact h i (by omega)
      · have q : ¬ x = 0 := fun w => z (Or.inl w)
        obtain ⟨q1, q2, q3⟩ := dn True q
        obtain ⟨e1, e2⟩ := vMp hW hR w2 q2
        obtain ⟨e3, e4⟩ := vMp hW hR w3 q3
        have z2 := fun w => z (Or.inr w)
        rw [e1, e3, e64, nI_clamp (by omega), (hL k hkM _ e2).1, zl_b1 e4, zb_0, Decidable.not_not] at z2
        have hck : ck3 A k = true := by
          unfold ck3
          rw [q1, decide_eq_true q2, decide_eq_true q3, Bool.eq_false_iff.mpr z2]
          rfl
        rw [zfst_some hck h hkM, if_pos (by omega)] at hQ
        have em : (-20 : Int32) - nI k = iI (-20 - (k : Int)) := by rw [← iI_nat, show (-20 : Int32) = iI (-20) from rfl, iI_sub]
        rw [em]
        exact hQ
theorem L_X12_check53 (hW : zWf A) (hR : zRM A σ) (hnext : (aAl A = true → ∀ i, i < aN A → ck2 A i = false) → zE true (d + 7) kc ks M_X12_check 99 [some (.inr (.inr (54, 0))), some (.inl (0)), none] [] σ Q) (hQ : aAl A = true → 0 ≤ zfst (ck2 A) (aN A) → Q (some (.inl (iI (-200 - zfst (ck2 A) (aN A))))) σ) : ∀ (n k : Nat), k + n = aN A → (aAl A = true → ∀ i, i < k → ck2 A i = false) → zE true (d + 7) kc ks M_X12_check 53 [some (.inr (.inr (54, 0))), some (.inl (nI k)), none] [] σ Q := by
  have hN : aN A ≤ 24 := hW.1.2.2.2.2.1
  intro n
  induction n with
  | zero =>
    intro k hk h
    have : k = aN A := by omega
    subst this
    exact T_X12_check_53 ⟨fun _ => hnext h, fun h => absurd (by rw [hR.1.2.2.1]; exact Int32.le_refl _) h⟩
  | succ n ih =>
    intro k hk h
    have hkN : k < aN A := by omega
    have ik : vp_in (nI k) 24 := nI_in (by omega) (by omega)
    refine T_X12_check_53 ⟨fun g => ?_, fun _ => ?_⟩
    · rw [hR.1.2.2.1, nI_leI (by omega) (by omega)] at g
      omega
    · rw [hR.1.2.2.2.2.2.1, zb_0, nI_clamp (show k < 2 ^ 31 by omega), cMp hW hR hkN]
      have step : ck2 A k = false → zE true (d + 7) kc ks M_X12_check 53 [some (.inr (.inr (54, 0))), some (.inl ((nI k + 1))), none] [] σ Q := fun q => by
        rw [← nI_succ]
        refine ih (k + 1) (by omega) (fun ha i hi => ?_)
        by_cases e : i = k
        · rw [e]; exact q
        · exact h ha i (by omega)
      refine ⟨fun g => hnext (fun ha => absurd ha g), fun g => ⟨ik, fun g2 => step ?_, fun g2 => S_X12_hasLesserThere hW hR hkN ⟨fun g3 => step ?_, fun g3 => ?_⟩⟩⟩
      · unfold ck2; rw [decide_eq_false g2, Bool.false_and]
      · rw [zb_0, Bool.not_eq_true] at g3
        unfold ck2; rw [g3, Bool.and_false]
      · rw [zb_0, Decidable.not_not] at g3
        have ha : aAl A = true := Decidable.not_not.mp g
        have hck : ck2 A k = true := by unfold ck2; rw [g3, decide_eq_true (Decidable.not_not.mp g2)]; rfl
        have := hQ ha
        rw [zfst_some hck (h ha) hkN] at this
        have em : (-200 : Int32) - nI k = iI (-200 - (k : Int)) := by rw [← iI_nat, show (-200 : Int32) = iI (-200) from rfl, iI_sub]
        rw [em]
        exact this (by omega)
theorem L_X12_check6 (hW : zWf A) (hR : zRM A σ) (hnext : (∀ i, i < aN A → ck1 A i = false) → zE true (d + 7) kc ks M_X12_check 53 [some (.inr (.inr (54, 0))), some (.inl (0)), none] [] σ Q) (hQ : 0 ≤ zfst (ck1 A) (aN A) → Q (some (.inl (iI (-100 - zfst (ck1 A) (aN A))))) σ) : ∀ (n k : Nat), k + n = aN A → (∀ i, i < k → ck1 A i = false) → zE true (d + 7) kc ks M_X12_check 6 [some (.inr (.inr (54, 0))), some (.inl (nI k)), none] [] σ Q := by
  have hN : aN A ≤ 24 := hW.1.2.2.2.2.1
  intro n
  induction n with
  | zero =>
    intro k hk h
    have : k = aN A := by omega
    subst this
    exact T_X12_check_6 ⟨fun _ => hnext h, fun h => absurd (by rw [hR.1.2.2.1]; exact Int32.le_refl _) h⟩
  | succ n ih =>
    intro k hk h
    have hkN : k < aN A := by omega
    have ik : vp_in (nI k) 24 := nI_in (by omega) (by omega)
    refine T_X12_check_6 ⟨fun g => ?_, fun _ => ?_⟩
    · rw [hR.1.2.2.1, nI_leI (by omega) (by omega)] at g
      omega
    · rw [nI_clamp (show k < 2 ^ 31 by omega), cMp hW hR hkN]
      have step : ck1 A k = false → zE true (d + 7) kc ks M_X12_check 6 [some (.inr (.inr (54, 0))), some (.inl ((nI k + 1))), none] [] σ Q := fun q => by
        rw [← nI_succ]
        refine ih (k + 1) (by omega) (fun i hi => ?_)
        by_cases e : i = k
        · rw [e]; exact q
        · exact h i (by omega)
      refine ⟨ik, fun g => step ?_, fun g => S_X12_toldOf hW hR hkN ⟨ik, ?_⟩⟩
      · unfold ck1; rw [decide_eq_false g, Bool.false_and]
      · have g2 := Decidable.not_not.mp g
        obtain ⟨e1, e2⟩ := vMp hW hR hkN g2
        rw [e1, zl_b1 e2, zb_0]
        refine ⟨fun q => step ?_, fun q => ?_⟩
        · unfold ck1; rw [Decidable.not_not.mp q]; simp
        · have hck : ck1 A k = true := by unfold ck1; rw [decide_eq_true g2, Bool.eq_false_iff.mpr q]; rfl
          rw [zfst_some hck h hkN] at hQ
          have em : (-100 : Int32) - nI k = iI (-100 - (k : Int)) := by rw [← iI_nat, show (-100 : Int32) = iI (-100) from rfl, iI_sub]
          rw [em]
          exact hQ (by omega)
theorem zfst_neg {p : Nat → Bool} {n : Nat} (h : ¬ 0 ≤ zfst p n) : ∀ i, i < n → p i = false := by
  have : zfst p n = -9 ∨ 0 ≤ zfst p n := by
    clear h
    induction n with
    | zero => exact Or.inl rfl
    | succ n ih =>
      unfold zfst
      split
      · split
        · exact Or.inr (by omega)
        · exact Or.inl rfl
      · next q => exact ih.resolve_left q |> Or.inr
  exact zfst_none.mp (this.resolve_right h)
theorem O_X12_check {K : Int32 → zSt → Prop} (hW : zWf A) (hR : zRM A σ) (hC : zCM A σ) (hK : ∀ σ', zOnly zQm σ σ' → zCM A σ' → K (iI (ckV A)) σ') : zCi true (d + 7) 0 0 M_X12_check [.inr (.inr (54, 0))] σ K := by
  refine zC_intro pl_X12 (Nat.le_of_ble_eq_true rfl) (T_X12_check_0 (S_X12_layAll hW hR hC.1 (fun σ1 o1 d1 l1 => ?_)))
  have hR1 : zRM A σ1 := hR.only o1 (fun c k hb => by unfold zBM at hb; omega)
  have hC1 : zCM A σ1 := ⟨l1, hC.2.1.only o1 ⟨by omega, fun k => by omega⟩, hC.2.2.1.only o1 ⟨by omega, by omega, fun k => by omega⟩, hC.2.2.2.only o1 ⟨by omega, by omega, by omega, fun k => by omega⟩⟩
  have fin := hK σ1 (o1.mono (fun c j k h => by unfold zQm; omega)) hC1
  unfold ckV at fin
  have f3 : (∀ i, i < aN A → ck1 A i = false) → (aAl A = true → ∀ i, i < aN A → ck2 A i = false) → K (iI (if 0 ≤ zfst (ck3 A) (aM A) then -20 - zfst (ck3 A) (aM A) else 1)) σ1 := fun a1 a2 => by
    rw [if_neg (by rw [zfst_none.mpr a1]; omega), if_neg (fun q => by have := q.2; rw [zfst_none.mpr (a2 q.1)] at this; omega)] at fin
    exact fin
  have f2 : (∀ i, i < aN A → ck1 A i = false) → aAl A = true → 0 ≤ zfst (ck2 A) (aN A) → K (iI (-200 - zfst (ck2 A) (aN A))) σ1 := fun a1 a2 a3 => by
    rw [if_neg (by rw [zfst_none.mpr a1]; omega), if_pos ⟨a2, a3⟩] at fin
    exact fin
  have f1 : 0 ≤ zfst (ck1 A) (aN A) → K (iI (-100 - zfst (ck1 A) (aN A))) σ1 := fun a1 => by
    rw [if_pos a1] at fin
    exact fin
  exact L_X12_check6 (A := A) (Q := fun r σ' => ∃ x, r = some (.inl x) ∧ K x σ') hW hR1 (fun g1 => L_X12_check53 (A := A) (Q := fun r σ' => ∃ x, r = some (.inl x) ∧ K x σ') hW hR1 (fun g2 => L_X12_check99 (A := A) (Q := fun r σ' => ∃ x, r = some (.inl x) ∧ K x σ') hW hR1 d1 ⟨_, rfl, f3 g1 g2⟩ (aM A) 0 (by omega) (fun i hi => absurd hi (Nat.not_lt_zero i))) (fun ga g2 => ⟨_, rfl, f2 g1 ga g2⟩) (aN A) 0 (by omega) (fun _ i hi => absurd hi (Nat.not_lt_zero i))) (fun g => ⟨_, rfl, f1 g⟩) (aN A) 0 (by omega) (fun i hi => absurd hi (Nat.not_lt_zero i))
end zMv
