/-! about, many (reference) -/
def onP (A : zAb) (t m : Nat) : Bool := mO A m && (decide (mA A m = t) || decide (mB A m = t))
def onV (A : zAb) (t : Nat) : Nat := fb_ct (onP A t) (aM A)
noncomputable def abV (A : zAb) (t : Nat) (e : Int32) : Int32 := if e = 0 then nI (aK A t) else if e = 1 then nI (fb_ct (atold A t) 64) else if e = 2 then nI (fb_ct (gB A (mO A) t) 64) else if e = 3 then iI (zfst (gB A (mO A) t) 64) else if e = 4 then nI (onV A t) else if e = 5 then iI (aMp A t) else if e = 6 then zb (aTr A t = true) else if e = 7 then iI (aMo A t) else if e = 8 then iI (aTi A t) else -2
noncomputable def mn3 (A : zAb) (e : Int32) (m : Nat) : Nat := if e = 3 ∧ mO A m = true then 1 else 0
noncomputable def mn4 (A : zAb) (e : Int32) (t : Nat) : Nat := if e = 5 ∧ fb_ct (gB A (mO A) t) 64 = 1 then 1 else if e = 7 ∧ 0 ≤ aMp A t then 1 else if e = 6 then fb_ct (gB A (mO A) t) 64 else 0
def mn5 (H : zHo) (e : Int32) (k : Nat) : Nat := if e = 8 ∧ 0 ≤ H.1 k then 1 else 0
noncomputable def mnC (A : zAb) (H : zHo) (e : Int32) : Nat := fb_sm (mn3 A e) (aM A) + fb_sm (mn4 A e) (aN A) + fb_sm (mn5 H e) 8
noncomputable def mnV (A : zAb) (H : zHo) (e : Int32) : Int32 := if e = 0 then nI (fb_ct (afree A) 64) else if e = 1 then nI (aN A) else if e = 2 then nI (aM A) else if e = 4 then nI (aV A) else if e = 9 then zb (aAl A = true) else if e = 3 ∨ e = 5 ∨ e = 6 ∨ e = 7 ∨ e = 8 then nI (mnC A H e) else -2
section zMm2
variable {d kc ks : Nat} {σ : zSt} {A : zAb} {H : zHo} {Q : Option zV → zSt → Prop}
theorem L_X12_onOf (hW : zWf A) (hR : zRM A σ) {t : Nat} (ht : t < aN A) (hQ : Q (some (.inl (nI (onV A t)))) σ) : ∀ (n k : Nat), k + n = aM A → zE true (d + 1) kc ks M_X12_onOf 4 [some (.inr (.inr (54, 0))), some (.inl (nI t)), some (.inl (nI (fb_ct (onP A t) k))), some (.inl (nI k))] [] σ Q := by
  have hM : aM A ≤ 60 := hW.1.2.2.2.2.2.1
  have hN : aN A ≤ 24 := hW.1.2.2.2.2.1
  intro n
  induction n with
  | zero =>
    intro k hk
    have : k = aM A := by omega
    subst this
    exact T_X12_onOf_4 ⟨fun _ => hQ, fun h => absurd (by rw [hR.1.2.2.2.1]; exact Int32.le_refl _) h⟩
  | succ n ih =>
    intro k hk
    obtain ⟨r1, r2, r3, r4, r5, r6⟩ := hR.2.2.1 k (by omega)
    obtain ⟨w1, w2, w3, w4⟩ := hW.2.2.1 k (by omega)
    have i60 : vp_in (nI k) 60 := nI_in (by omega) (by omega)
    refine T_X12_onOf_4 ⟨fun g => ?_, fun _ => ?_⟩
    · rw [hR.1.2.2.2.1, nI_leI (by omega) (by omega)] at g
      omega
    · rw [nI_clamp (show k < 2 ^ 31 by omega), r2, r3, r6, ← nI_succ]
      refine ⟨i60, fun _ => i60, fun _ _ => i60, fun x hx => ?_⟩
      have ex : x = nI (if onP A t k = true then 1 else 0) := by
        have c1 : nI (mA A k) = nI t ↔ mA A k = t := nI_eq (by omega) (by omega)
        have c2 : nI (mB A k) = nI t ↔ mB A k = t := nI_eq (by omega) (by omega)
        rw [hx]
        by_cases z : onP A t k = true
        · rw [if_pos z, if_neg]
          · rfl
          · unfold onP at z
            rw [Bool.and_eq_true, Bool.or_eq_true, decide_eq_true_eq, decide_eq_true_eq] at z
            rw [zb_0, c1, c2]
            rintro (q | q)
            · exact q z.1
            · exact z.2.elim q.1 q.2
        · rw [if_neg z, if_pos]
          · rfl
          · unfold onP at z
            rw [Bool.and_eq_true, Bool.or_eq_true, decide_eq_true_eq, decide_eq_true_eq] at z
            rw [zb_0, c1, c2]
            by_cases z1 : mO A k = true
            · exact Or.inr ⟨fun q => z ⟨z1, Or.inl q⟩, fun q => z ⟨z1, Or.inr q⟩⟩
            · exact Or.inl z1
      rw [ex, nI_add]
      exact ih (k + 1) (by omega)
theorem S_X12_onOf {K : Int32 → zSt → Prop} (hW : zWf A) (hR : zRM A σ) {t : Nat} (ht : t < aN A) (hK : K (nI (onV A t)) σ) : zCi true (d + 1) 0 0 M_X12_onOf [.inr (.inr (54, 0)), .inl (nI t)] σ K :=
  zC_intro pl_X12 (Nat.le_of_ble_eq_true rfl) (T_X12_onOf_0 (L_X12_onOf hW hR ht ⟨_, rfl, hK⟩ (aM A) 0 (by omega)))
theorem L_X12_firstOf {ph : Bool} {x : Int64} (hQ : Q (some (.inl (iI (zfst (tb x) 64)))) σ) : ∀ (n k : Nat), k + n = 64 → (∀ i, i < k → tb x i = false) → zE ph (d + 2) kc ks M_X12_firstOf 2 [some (.inr (.inl (x))), none, some (.inl (nI k))] [] σ Q := by
  intro n
  induction n with
  | zero =>
    intro k hk h
    have : k = 64 := by omega
    subst this
    have e : zfst (tb x) 64 = -9 := zfst_none.mpr h
    rw [e] at hQ
    exact T_X12_firstOf_2 ⟨fun _ => hQ, fun h => absurd (show (64 : Int32) ≤ nI 64 by decide) h⟩
  | succ n ih =>
    intro k hk h
    refine T_X12_firstOf_2 ⟨fun g => ?_, fun _ => S_X12_hasBit _ _ ⟨fun g => ?_, fun g => ?_⟩⟩
    · rw [show (64 : Int32) = nI 64 from rfl, nI_leI (by omega) (by omega)] at g
      omega
    · rw [zb_0, zl_bit1 (by omega)] at g
      rw [← nI_succ]
      refine ih (k + 1) (by omega) (fun i hi => ?_)
      by_cases e : i = k
      · subst e; simpa using g
      · exact h i (by omega)
    · rw [zb_0, Decidable.not_not, zl_bit1 (by omega)] at g
      have e : zfst (tb x) 64 = (k : Int) := zfst_some g h (by omega)
      rw [e] at hQ
      exact hQ
theorem S_X12_firstOf {ph : Bool} {K : Int32 → zSt → Prop} (x : Int64) (hK : K (iI (zfst (tb x) 64)) σ) : zCi ph (d + 2) 0 0 M_X12_firstOf [.inr (.inl (x))] σ K :=
  zC_intro pl_X12 (Nat.le_of_ble_eq_true rfl) (T_X12_firstOf_0 (L_X12_firstOf ⟨_, rfl, hK⟩ 64 0 rfl (fun i hi => absurd hi (Nat.not_lt_zero i))))
theorem zfst_cong {p q : Nat → Bool} : ∀ {n : Nat}, (∀ i, i < n → p i = q i) → zfst p n = zfst q n
  | 0, _ => rfl
  | n + 1, h => by
    unfold zfst
    rw [zfst_cong (n := n) (fun i hi => h i (by omega)), h n (by omega)]
theorem zct_set (p : Nat → Bool) : fb_ct (tb (zset p 64)) 64 = fb_ct p 64 := fb_ct_cong (fun k hk => tb_set hk)
theorem zfst_set (p : Nat → Bool) : zfst (tb (zset p 64)) 64 = zfst p 64 := zfst_cong (fun k hk => tb_set hk)
theorem O_X12_about {K : Int32 → zSt → Prop} (hW : zWf A) (hR : zRM A σ) (hC : zCM A σ) (a e : Int32) (hno : ¬ tI A a = true → K (-1) σ) (hyes : ∀ t, t < aN A → a = nI t → ∀ σ', zOnly zQm σ σ' → zCM A σ' → K (abV A t e) σ') : zCi true (d + 9) 0 0 M_X12_about [.inr (.inr (54, 0)), .inl (a), .inl (e)] σ K := by
  have hN : aN A ≤ 24 := hW.1.2.2.2.2.1
  refine zC_intro pl_X12 (Nat.le_of_ble_eq_true rfl) (T_X12_about_0 (S_X12_noThing hW hR a ⟨fun h => ?_, fun h => ⟨_, rfl, hno ?_⟩⟩))
  · rw [zb_0, Decidable.not_not] at h
    obtain ⟨t, ht, rfl⟩ := tI_nI h
    refine S_X12_findNarrowed hW hR hC (fun σ' o1 c1 x1 => ?_)
    have hR1 := hR.q o1
    have hy := hyes t ht rfl σ' o1 c1
    obtain ⟨q1, q2, q3, q4, q5, q6, q7, q8, q9, q10⟩ := hR1.2.1 t ht
    have i24 : vp_in (nI t) 24 := nI_in (by omega) (by omega)
    rw [nI_clamp (show t < 2 ^ 31 by omega), q1, q7, q8, q9, q10, x1 t ht]
    refine ⟨fun z => ⟨i24, _, rfl, ?_⟩, fun z => S_X12_toldOf hW hR1 ht (S_X12_count _ ⟨_, rfl, ?_⟩), fun z => ⟨i24, S_X12_count _ ⟨_, rfl, ?_⟩⟩, fun z => ⟨i24, S_X12_firstOf _ ⟨_, rfl, ?_⟩⟩, fun z => S_X12_onOf hW hR1 ht ⟨_, rfl, ?_⟩, fun z => ⟨i24, _, rfl, ?_⟩, fun z => ⟨i24, fun x hx => ⟨_, rfl, ?_⟩⟩, fun z => ⟨i24, _, rfl, ?_⟩, fun z => ⟨i24, _, rfl, ?_⟩, fun z0 z1 z2 z3 z4 z5 z6 z7 z8 => ⟨_, rfl, ?_⟩⟩
    · subst z; exact hy
    · subst z; rw [zct_set]; exact hy
    · subst z; rw [zct_set]; exact hy
    · subst z; rw [zfst_set]; exact hy
    · subst z; exact hy
    · subst z; exact hy
    · subst z
      rw [hx, zb_of0 (P := aTr A t = true) (by rw [zb_0])]
      exact hy
    · subst z; exact hy
    · subst z; exact hy
    · have : abV A t e = -2 := by unfold abV; rw [if_neg z0, if_neg z1, if_neg z2, if_neg z3, if_neg z4, if_neg z5, if_neg z6, if_neg z7, if_neg z8]
      rw [this] at hy
      exact hy
  · rw [zb_0, Decidable.not_not] at h
    exact h
theorem L_X12_cnt118 (hWH : zWh H) (hH : zRh H σ) {e : Int32} {s : Nat} (hQ : Q (some (.inl (nI (s + fb_sm (mn5 H e) 8)))) σ) : ∀ (n k : Nat), k + n = 8 → zE true (d + 9) kc ks M_X12_counted 118 [some (.inr (.inr (54, 0))), some (.inl (e)), some (.inl (nI (s + fb_sm (mn5 H e) k))), some (.inl (nI k)), none] [] σ Q := by
  intro n
  induction n with
  | zero =>
    intro k hk
    have : k = 8 := by omega
    subst this
    exact T_X12_counted_118 ⟨fun _ => hQ, fun h => absurd (show (8 : Int32) ≤ nI 8 by decide) h⟩
  | succ n ih =>
    intro k hk
    have r := wh_rng hWH (show k < 8 by omega)
    refine T_X12_counted_118 ⟨fun g => ?_, fun _ => ⟨fun _ => nI_in (by omega) (by omega), fun x hx => ?_⟩⟩
    · rw [show (8 : Int32) = nI 8 from rfl, nI_leI (by omega) (by omega)] at g
      omega
    · have c0 : (iI (H.1 k) < 0) ↔ H.1 k < 0 := iI_lt (b := 0) (by omega) (by omega)
      rw [nI_clamp (show k < 2 ^ 31 by omega), (hH k (by omega)).1] at hx
      have ex : x = nI (mn5 H e k) := by
        rw [hx]
        unfold mn5
        by_cases z : e = 8 ∧ 0 ≤ H.1 k
        · rw [if_pos z, if_neg]
          · rfl
          · rw [c0]
            rintro (q | q)
            · exact q z.1
            · omega
        · rw [if_neg z, if_pos]
          · rfl
          · rw [c0]
            by_cases z1 : e = 8
            · exact Or.inr (by have : ¬ 0 ≤ H.1 k := fun q => z ⟨z1, q⟩; omega)
            · exact Or.inl z1
      rw [ex, nI_add, ← nI_succ, Nat.add_assoc, ← fb_sm_succ]
      exact ih (k + 1) (by omega)
theorem L_X12_cnt46 (hW : zWf A) (hR : zRM A σ) (hX : zLf A σ 79 (gB A (mO A))) {e : Int32} {s : Nat} (hnext : zE true (d + 9) kc ks M_X12_counted 118 [some (.inr (.inr (54, 0))), some (.inl (e)), some (.inl (nI (s + fb_sm (mn4 A e) (aN A)))), some (.inl (0)), none] [] σ Q) : ∀ (n k : Nat), k + n = aN A → zE true (d + 9) kc ks M_X12_counted 46 [some (.inr (.inr (54, 0))), some (.inl (e)), some (.inl (nI (s + fb_sm (mn4 A e) k))), some (.inl (nI k)), none] [] σ Q := by
  have hN : aN A ≤ 24 := hW.1.2.2.2.2.1
  intro n
  induction n with
  | zero =>
    intro k hk
    have : k = aN A := by omega
    subst this
    exact T_X12_counted_46 ⟨fun _ => hnext, fun h => absurd (by rw [hR.1.2.2.1]; exact Int32.le_refl _) h⟩
  | succ n ih =>
    intro k hk
    have i24 : vp_in (nI k) 24 := nI_in (by omega) (by omega)
    have hct := fb_ct_le (gB A (mO A) k) 64
    have q10 := (hR.2.1 k (by omega)).2.2.2.2.2.2.2.2.2
    have wm := (hW.2.1 k (by omega)).2.2.2.2.2.2.2.1
    have wm2 : -9 ≤ aMp A k ∧ aMp A k < 64 := by
      rcases wm with q | ⟨c, q, q2⟩
      · omega
      · have := acell_64 q2; omega
    have go : ∀ v : Nat, v = mn4 A e k → zE true (d + 9) kc ks M_X12_counted 46 [some (.inr (.inr (54, 0))), some (.inl (e)), some (.inl (nI (s + fb_sm (mn4 A e) k + v))), some (.inl ((nI k + 1))), none] [] σ Q := fun v hv => by
      rw [hv, ← nI_succ, Nat.add_assoc, ← fb_sm_succ]
      exact ih (k + 1) (by omega)
    refine T_X12_counted_46 ⟨fun g => ?_, fun _ => ?_⟩
    · rw [hR.1.2.2.1, nI_leI (by omega) (by omega)] at g
      omega
    · rw [nI_clamp (show k < 2 ^ 31 by omega), hX k (by omega)]
      refine ⟨i24, S_X12_count _ ?_⟩
      rw [zct_set]
      have c1 : nI (fb_ct (gB A (mO A) k) 64) = 1 ↔ fb_ct (gB A (mO A) k) 64 = 1 := nI_eqI (b := 1) (by omega) (by omega)
      have cm : (zgi σ 62 0 (nI k).toNatClampNeg < 0) ↔ aMp A k < 0 := by
        rw [nI_clamp (show k < 2 ^ 31 by omega), q10]
        exact iI_lt (b := 0) (by omega) (by omega)
      refine ⟨fun g => T_X12_counted_77 ⟨fun _ => i24, fun g2 => T_X12_counted_96 (fun x hx => ?_), fun g2 => ?_⟩, fun g => ?_⟩
      · rw [c1] at g
        rw [cm] at g2
        have n1 : ¬ (e = 5 ∧ fb_ct (gB A (mO A) k) 64 = 1) := fun z => g.elim (fun w => w z.1) (fun w => w z.2)
        have n2 : ¬ (e = 7 ∧ 0 ≤ aMp A k) := fun z => g2.elim (fun w => w z.1) (fun w => by omega)
        have ex : x = nI (mn4 A e k) := by
          rw [hx]
          unfold mn4
          rw [if_neg n1, if_neg n2]
          by_cases z : e = 6
          · rw [if_neg (fun w => w z), if_pos z]
          · rw [if_pos z, if_neg z]; rfl
        rw [ex, nI_add]
        exact go _ rfl
      · rw [c1] at g
        rw [cm] at g2
        have n1 : ¬ (e = 5 ∧ fb_ct (gB A (mO A) k) 64 = 1) := fun z => g.elim (fun w => w z.1) (fun w => w z.2)
        have n2 : e = 7 ∧ 0 ≤ aMp A k := ⟨Decidable.not_not.mp (fun z => g2 (Or.inl z)), by have : ¬ aMp A k < 0 := fun z => g2 (Or.inr z); omega⟩
        rw [← nI_succ]
        exact go 1 (by unfold mn4; rw [if_neg n1, if_pos n2])
      · rw [c1] at g
        have n1 : e = 5 ∧ fb_ct (gB A (mO A) k) 64 = 1 := ⟨Decidable.not_not.mp (fun z => g (Or.inl z)), Decidable.not_not.mp (fun z => g (Or.inr z))⟩
        rw [← nI_succ]
        exact go 1 (by unfold mn4; rw [if_pos n1])
theorem L_X12_cnt8 (hW : zWf A) (hR : zRM A σ) {e : Int32} (hnext : zE true (d + 9) kc ks M_X12_counted 46 [some (.inr (.inr (54, 0))), some (.inl (e)), some (.inl (nI (fb_sm (mn3 A e) (aM A)))), some (.inl (0)), none] [] σ Q) : ∀ (n k : Nat), k + n = aM A → zE true (d + 9) kc ks M_X12_counted 8 [some (.inr (.inr (54, 0))), some (.inl (e)), some (.inl (nI (fb_sm (mn3 A e) k))), some (.inl (nI k)), none] [] σ Q := by
  have hM : aM A ≤ 60 := hW.1.2.2.2.2.2.1
  intro n
  induction n with
  | zero =>
    intro k hk
    have : k = aM A := by omega
    subst this
    exact T_X12_counted_8 ⟨fun _ => hnext, fun h => absurd (by rw [hR.1.2.2.2.1]; exact Int32.le_refl _) h⟩
  | succ n ih =>
    intro k hk
    refine T_X12_counted_8 ⟨fun g => ?_, fun _ => ⟨fun _ => nI_in (by omega) (by omega), fun x hx => ?_⟩⟩
    · rw [hR.1.2.2.2.1, nI_leI (by omega) (by omega)] at g
      omega
    · rw [nI_clamp (show k < 2 ^ 31 by omega), (hR.2.2.1 k (by omega)).2.2.2.2.2] at hx
      have ex : x = nI (mn3 A e k) := by
        rw [hx]
        unfold mn3
        by_cases z : e = 3 ∧ mO A k = true
        · rw [if_pos z, if_neg]
          · rfl
          · rw [zb_0]
            rintro (q | q)
            · exact q z.1
            · exact q z.2
        · rw [if_neg z, if_pos]
          · rfl
          · rw [zb_0]
            by_cases z1 : e = 3
            · exact Or.inr (fun q => z ⟨z1, q⟩)
            · exact Or.inl z1
      rw [ex, nI_add, ← nI_succ, ← fb_sm_succ]
      exact ih (k + 1) (by omega)
theorem S_X12_counted {K : Int32 → zSt → Prop} (hW : zWf A) (hR : zRM A σ) (hC : zCM A σ) (hWH : zWh H) (hH : zRh H σ) (e : Int32) (hK : ∀ σ', zOnly zQm σ σ' → zCM A σ' → K (nI (mnC A H e)) σ') : zCi true (d + 9) 0 0 M_X12_counted [.inr (.inr (54, 0)), .inl (e)] σ K := by
  refine zC_intro pl_X12 (Nat.le_of_ble_eq_true rfl) (T_X12_counted_0 (S_X12_findNarrowed hW hR hC (fun σ' o1 c1 x1 => ?_)))
  have hR1 := hR.q o1
  have hH1 : zRh H σ' := hH.only o1 (fun k => by unfold zQm; omega)
  have := L_X12_cnt8 (d := d) (kc := 0) (ks := 0) (Q := fun r σ' => ∃ x, r = some (.inl x) ∧ K x σ') (e := e) hW hR1 (L_X12_cnt46 (s := fb_sm (mn3 A e) (aM A)) hW hR1 x1 (L_X12_cnt118 hWH hH1 ⟨_, rfl, hK σ' o1 c1⟩ 8 0 rfl) (aN A) 0 (by omega)) (aM A) 0 (by omega)
  exact this
theorem O_X12_many {K : Int32 → zSt → Prop} (hW : zWf A) (hR : zRM A σ) (hC : zCM A σ) (hWH : zWh H) (hH : zRh H σ) (e : Int32) (hK : ∀ σ', zOnly zQm σ σ' → zCM A σ' → K (mnV A H e) σ') : zCi true (d + 10) 0 0 M_X12_many [.inr (.inr (54, 0)), .inl (e)] σ K := by
  have h0 := hK σ zOnly.rf hC
  refine zC_intro pl_X12 (Nat.le_of_ble_eq_true rfl) (T_X12_many_0 ⟨fun z => S_X12_freeCells hW hR ⟨_, rfl, ?_⟩, fun z => ⟨_, rfl, ?_⟩, fun z => ⟨_, rfl, ?_⟩, fun z => S_X12_counted hW hR hC hWH hH e (fun σ' o1 c1 => ⟨_, rfl, ?_⟩), fun z => ⟨_, rfl, ?_⟩, fun z => S_X12_counted hW hR hC hWH hH e (fun σ' o1 c1 => ⟨_, rfl, ?_⟩), fun z => S_X12_counted hW hR hC hWH hH e (fun σ' o1 c1 => ⟨_, rfl, ?_⟩), fun z => S_X12_counted hW hR hC hWH hH e (fun σ' o1 c1 => ⟨_, rfl, ?_⟩), fun z => S_X12_counted hW hR hC hWH hH e (fun σ' o1 c1 => ⟨_, rfl, ?_⟩), fun z x hx => ⟨_, rfl, ?_⟩, fun z0 z1 z2 z3 z4 z5 z6 z7 z8 z9 => ⟨_, rfl, ?_⟩⟩)
  · subst z; exact h0
  · subst z; rw [hR.1.2.2.1]; exact h0
  · subst z; rw [hR.1.2.2.2.1]; exact h0
  · subst z; exact hK σ' o1 c1
  · subst z; rw [hR.1.2.2.2.2.1]; exact h0
  · subst z; exact hK σ' o1 c1
  · subst z; exact hK σ' o1 c1
  · subst z; exact hK σ' o1 c1
  · subst z; exact hK σ' o1 c1
  · subst z
    rw [hx, hR.1.2.2.2.2.2.1, zb_of0 (P := aAl A = true) (by rw [zb_0])]
    exact h0
  · have : mnV A H e = -2 := by
      unfold mnV
      rw [if_neg z0, if_neg z1, if_neg z2, if_neg z4, if_neg z9, if_neg]
      rintro (q | q | q | q | q)
      · exact z3 q
      · exact z5 q
      · exact z6 q
      · exact z7 q
      · exact z8 q
    rw [this] at h0
    exact h0
end zMm2
