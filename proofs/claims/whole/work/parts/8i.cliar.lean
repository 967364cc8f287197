/-! liars (class): filling, measures of a thing, suspects, one set tried -/
theorem pl_J7 : plainName RJ7 = true := by decide +kernel
section zCf
variable {d kc ks : Nat} {σ : zSt} {A : zAb} {Q : Option zV → zSt → Prop}
theorem L_J7_fill {ph : Bool} {ca j N : Nat} {v : Int32} (hk : zkd ca = 0) (hc : 5 < ca) (hl : zLn.getD ca 0 = N) (hN : N < 2 ^ 31) {σ0 : zSt} (hQ : ∀ σ', zOnly (fun c i _ => c = ca ∧ i = j) σ0 σ' → σ'.2.2.2 = σ0.2.2.2 → (∀ k, k < N → zgi σ' ca j k = v) → Q none σ') : ∀ (n k : Nat), k + n = N → ∀ σ : zSt, zOnly (fun c i _ => c = ca ∧ i = j) σ0 σ → σ.2.2.2 = σ0.2.2.2 → (∀ i, i < k → zgi σ ca j i = v) → zE ph (d + 1) kc ks M_J7_fill_53178 5 [some (.inr (.inr (ca, j))), some (.inl (v)), some (.inl (nI k)), some (.inl (nI N))] [] σ Q := by
  intro n
  induction n with
  | zero =>
    intro k hk2 σ ho hh h
    have : k = N := by omega
    subst this
    exact T_J7_fill_53178_5 hk hc ⟨fun _ => hQ σ ho hh h, fun g => absurd (Int32.le_refl _) g⟩
  | succ n ih =>
    intro k hk2 σ ho hh h
    refine T_J7_fill_53178_5 hk hc ⟨fun g => ?_, fun _ => ⟨by rw [hl]; exact nI_in (by omega) (by omega), ?_⟩⟩
    · rw [nI_leI (by omega) (by omega)] at g
      omega
    · rw [nI_clamp (show k < 2 ^ 31 by omega), ← nI_succ]
      refine ih (k + 1) (by omega) _ (ho.tr (zOnly.si ⟨rfl, rfl⟩)) hh (fun i hi => ?_)
      rw [zgi_si]
      by_cases e : i = k
      · rw [if_pos ⟨rfl, rfl, e⟩]
      · rw [if_neg (fun q => e q.2.2)]
        exact h i (by omega)
theorem S_J7_fill {ph : Bool} {K : zSt → Prop} {ca j N : Nat} {v : Int32} (hk : zkd ca = 0) (hc : 5 < ca) (hl : zLn.getD ca 0 = N) (hN : N < 2 ^ 31) (hK : ∀ σ', zOnly (fun c i _ => c = ca ∧ i = j) σ σ' → σ'.2.2.2 = σ.2.2.2 → (∀ k, k < N → zgi σ' ca j k = v) → K σ') : zCv ph (d + 1) 0 0 M_J7_fill_53178 [.inr (.inr (ca, j)), .inl (v)] σ K := by
  refine zC_intro pl_J7 (Nat.le_of_ble_eq_true rfl) (T_J7_fill_53178_0 hk hc ?_)
  rw [hl]
  exact L_J7_fill hk hc hl hN (fun σ' h1 h2 h3 => ⟨rfl, hK σ' h1 h2 h3⟩) N 0 (Nat.zero_add _) σ zOnly.rf rfl (fun i hi => absurd hi (Nat.not_lt_zero i))
/-- the measures that a thing is in -/
def msOf (A : zAb) (t m : Nat) : Bool := decide (mA A m = t) || decide (mB A m = t)
theorem L_X1_msOf (hW : zWf A) (hR : zRD A σ 0) {t : Nat} (ht : t < 2 ^ 31) (hQ : Q (some (.inr (.inl (zset (fun m => decide (m < aM A) && msOf A t m) 64)))) σ) : ∀ (n k : Nat), k + n = aM A → zE true (d + 2) kc ks M_X1_measuresOf 5 [some (.inr (.inr (7, 0))), some (.inl (nI t)), some (.inr (.inl (zset (fun m => decide (m < k) && msOf A t m) 64))), none, some (.inl (nI k))] [] σ Q := by
  have hM : aM A ≤ 60 := hW.1.2.2.2.2.2.1
  have hN : aN A ≤ 24 := hW.1.2.2.2.2.1
  intro n
  induction n with
  | zero =>
    intro k hk
    have : k = aM A := by omega
    subst this
    exact T_X1_measuresOf_5 ⟨fun _ => hQ, fun g => absurd (by rw [zrd_nM hR]; exact Int32.le_refl _) g⟩
  | succ n ih =>
    intro k hk
    have hkM : k < aM A := by omega
    obtain ⟨n0, q0, hMe⟩ := hR.2.2.1 k hkM
    obtain ⟨w1, w2, w3, -⟩ := hW.2.2.1 k hkM
    have i60 : vp_in (nI k) 60 := nI_in (by omega) (by omega)
    have q0' : zgr σ 26 0 (nI k).toNatClampNeg = (17, n0) := by rw [nI_clamp (show k < 2 ^ 31 by omega)]; exact q0
    have e1 : msOf A t k = true → zset (fun m => decide (m < k) && msOf A t m) 64 ||| zlshl 1 (nI k) = zset (fun m => decide (m < k + 1) && msOf A t m) 64 := fun z => zset_eq (fun i hi => by
      rw [tb_or, tb_set hi, tb_bit (by omega)]
      by_cases e : i = k
      · subst e; simp [z]
      · simp [e, show (i < k + 1) = (i < k) from propext (by omega)])
    have e0 : msOf A t k = false → zset (fun m => decide (m < k) && msOf A t m) 64 = zset (fun m => decide (m < k + 1) && msOf A t m) 64 := fun z => zset_cong (fun i hi => by
      by_cases e : i = k
      · subst e; simp [z]
      · simp [e, show (i < k + 1) = (i < k) from propext (by omega)])
    have yes : msOf A t k = true → zE true (d + 2) kc ks M_X1_measuresOf 42 [some (.inr (.inr (7, 0))), some (.inl (nI t)), some (.inr (.inl (zset (fun m => decide (m < k) && msOf A t m) 64))), none, some (.inl (nI k))] [] σ Q := fun z => T_X1_measuresOf_42 (by
      rw [e1 z, ← nI_succ]
      exact ih (k + 1) (by omega))
    refine T_X1_measuresOf_5 ⟨fun g => ?_, fun _ => ⟨i60, n0, q0', ?_⟩⟩
    · rw [zrd_nM hR, nI_leI (by omega) (by omega)] at g
      omega
    · rw [hMe.2.2.2.1, nI_eq (by omega) ht]
      refine ⟨fun g => yes (by unfold msOf; rw [decide_eq_true g]; rfl), fun g => ⟨i60, n0, q0', ?_⟩⟩
      rw [hMe.2.2.2.2.1, nI_eq (by omega) ht]
      refine ⟨fun g2 => ?_, fun g2 => yes (by unfold msOf; rw [decide_eq_true g2, Bool.or_true])⟩
      rw [e0 (by unfold msOf; rw [decide_eq_false g, decide_eq_false g2]; rfl), ← nI_succ]
      exact ih (k + 1) (by omega)
theorem S_X1_measuresOf {K : Int64 → zSt → Prop} (hW : zWf A) (hR : zRD A σ 0) {t : Nat} (ht : t < 2 ^ 31) (hK : K (zset (fun m => decide (m < aM A) && msOf A t m) 64) σ) : zCl true (d + 2) 0 0 M_X1_measuresOf [.inr (.inr (7, 0)), .inl (nI t)] σ K := by
  refine zC_intro pl_X1 (Nat.le_of_ble_eq_true rfl) (T_X1_measuresOf_0 ?_)
  have e : (0 : Int64) = zset (fun m => decide (m < 0) && msOf A t m) 64 := zset_eq (fun i hi => by rw [tb_0]; simp)
  have := L_X1_msOf (d := d) (kc := 0) (ks := 0) (Q := fun r σ' => ∃ x, r = some (.inr (.inl x)) ∧ K x σ') hW hR ht ⟨_, rfl, hK⟩ (aM A) 0 (by omega)
  rw [← e] at this
  exact this
theorem L_X6_susp (hW : zWf A) (hR : zRD A σ 0) (hQ : Q (some (.inl (yset (fun t => decide (t < aN A) && lyM A t) 32))) σ) : ∀ (n k : Nat), k + n = aN A → zE true (d + 2) kc ks M_X6_suspects 4 [some (.inr (.inr (10, 0))), some (.inl (yset (fun t => decide (t < k) && lyM A t) 32)), some (.inl (nI k))] [] σ Q := by
  have hN : aN A ≤ 24 := hW.1.2.2.2.2.1
  intro n
  induction n with
  | zero =>
    intro k hk
    have : k = aN A := by omega
    subst this
    exact T_X6_suspects_4 ⟨fun _ => hQ, fun g => absurd (by rw [zrd_nT hR]; exact Int32.le_refl _) g⟩
  | succ n ih =>
    intro k hk
    have hkN : k < aN A := by omega
    obtain ⟨⟨n0, q0, hT⟩, -⟩ := hR.2.1 k hkN
    have wk := (hW.2.1 k hkN).1
    have q0' : zgr σ 23 0 (nI k).toNatClampNeg = (16, n0) := by rw [nI_clamp (show k < 2 ^ 31 by omega)]; exact q0
    have e1 : lyM A k = true → yset (fun t => decide (t < k) && lyM A t) 32 ||| zishl 1 (nI k) = yset (fun t => decide (t < k + 1) && lyM A t) 32 := fun z => yset_eq (fun i hi => by
      rw [b_or, bt_set hi, bt_bit (by omega)]
      by_cases e : i = k
      · subst e; simp [z]
      · simp [e, show (i < k + 1) = (i < k) from propext (by omega)])
    have e0 : lyM A k = false → yset (fun t => decide (t < k) && lyM A t) 32 = yset (fun t => decide (t < k + 1) && lyM A t) 32 := fun z => yset_cong (fun i hi => by
      by_cases e : i = k
      · subst e; simp [z]
      · simp [e, show (i < k + 1) = (i < k) from propext (by omega)])
    refine T_X6_suspects_4 ⟨fun g => ?_, fun _ => ⟨nI_in (by omega) (by omega), n0, q0', ?_⟩⟩
    · rw [zrd_nT hR, nI_leI (by omega) (by omega)] at g
      omega
    · have c2 : (nI (aK A k) = 2) ↔ aK A k = 2 := nI_eq (b := 2) (by omega) (by omega)
      rw [hT.2.2.1, c2, hR.1.2.2.2.2.1, yh_b (by omega), zb_0, Decidable.not_not, decide_eq_true hkN, Bool.true_and]
      refine ⟨fun g => ?_, fun g => ?_⟩
      · have z : lyM A k = false := by
          unfold lyM
          rcases g with g | g
          · rw [decide_eq_false (by omega)]; rfl
          · rw [g]; simp
        rw [e0 z, ← nI_succ]
        exact ih (k + 1) (by omega)
      · have z : lyM A k = true := by
          have g1 : ¬ aK A k = 2 := fun q => g (Or.inl q)
          have g2 : aTr A k = false := by
            by_cases q : aTr A k = true
            · exact absurd (Or.inr q) g
            · simpa using q
          unfold lyM
          rw [decide_eq_true (by omega), g2]; rfl
        rw [e1 z, ← nI_succ]
        exact ih (k + 1) (by omega)
theorem S_X6_suspects {K : Int32 → zSt → Prop} (hW : zWf A) (hR : zRD A σ 0) (hK : K (yset (fun t => decide (t < aN A) && lyM A t) 32) σ) : zCi true (d + 2) 0 0 M_X6_suspects [.inr (.inr (10, 0))] σ K := by
  refine zC_intro pl_X6 (Nat.le_of_ble_eq_true rfl) (T_X6_suspects_0 ?_)
  have e : (0 : Int32) = yset (fun t => decide (t < 0) && lyM A t) 32 := yset_eq (fun i hi => by rw [b_0]; simp)
  have := L_X6_susp (d := d) (kc := 0) (ks := 0) (Q := fun r σ' => ∃ x, r = some (.inl x) ∧ K x σ') hW hR ⟨_, rfl, hK⟩ (aN A) 0 (by omega)
  rw [← e] at this
  exact this
/-- the measures in use without those of two things; the two are a set that ends the quarrel -/
def lyW (A : zAb) (t u m : Nat) : Bool := mO A m && !(msOf A t m || msOf A u m)
noncomputable def lyB (A : zAb) (t u : Nat) : Bool := lyM A t && lyM A u && !quB A (lyW A t u)
theorem lyB_1 (A : zAb) (t : Nat) : lyB A t t = ly1 A t := by
  unfold lyB ly1
  rw [Bool.and_self]
  congr 2
  refine quB_cong (fun m hm => ?_)
  unfold lyW lyU msOf
  rw [Bool.or_self]
  congr 2
  have e1 : ∀ x : Nat, decide ((x : Int) = -1) = false := fun x => decide_eq_false (by omega)
  rw [e1, e1, Bool.or_false, Bool.or_false]
  congr 1
  · exact decide_eq_decide.mpr (by omega)
  · exact decide_eq_decide.mpr (by omega)
theorem lyB_2 (A : zAb) (t u : Nat) : lyB A t u = ly2 A t u := by
  unfold lyB ly2
  congr 2
  refine quB_cong (fun m hm => ?_)
  unfold lyW lyU msOf
  congr 2
  rw [show decide ((mA A m : Int) = (t : Int)) = decide (mA A m = t) from decide_eq_decide.mpr (by omega), show decide ((mB A m : Int) = (t : Int)) = decide (mB A m = t) from decide_eq_decide.mpr (by omega), show decide ((mA A m : Int) = (u : Int)) = decide (mA A m = u) from decide_eq_decide.mpr (by omega), show decide ((mB A m : Int) = (u : Int)) = decide (mB A m = u) from decide_eq_decide.mpr (by omega), Bool.or_assoc (_ || _)]
/-- the least quarrel is a quarrel -/
theorem lqU_qu {A : zAb} (h : quB A (mO A) = true) : ∀ k, quB A (lqU A k) = true
  | 0 => h
  | k + 1 => by
    have ih := lqU_qu h k
    by_cases q : quB A (fun j => if j = k then false else lqU A k j) = true
    · rw [quB_cong (v := fun j => if j = k then false else lqU A k j) (fun m hm => ?_)]
      · exact q
      · show (if m = k then (mO A k && !quB A (fun j => if j = k then false else lqU A k j)) else lqU A k m) = _
        rw [q]
        split <;> simp
    · rw [Bool.not_eq_true] at q
      rw [quB_cong (v := lqU A k) (fun m hm => ?_)]
      · exact ih
      · show (if m = k then (mO A k && !quB A (fun j => if j = k then false else lqU A k j)) else lqU A k m) = _
        rw [q]
        split
        · next e => subst e; rw [lqU_on A m m (Nat.le_refl _)]; simp
        · rfl
theorem lqU_sub {A : zAb} : ∀ {k m : Nat}, lqU A k m = true → mO A m = true
  | 0, m, h => h
  | k + 1, m, h => by
    have h' : (if m = k then (mO A k && !quB A (fun j => if j = k then false else lqU A k j)) else lqU A k m) = true := h
    split at h'
    · next e =>
      subst e
      rw [Bool.and_eq_true] at h'
      exact h'.1
    · exact lqU_sub h'
/-- who leaves the least quarrel whole ends nothing -/
theorem lyB_skip {A : zAb} (hq : quB A (mO A) = true) {t u : Nat} (h : ∀ m, m < aM A → lqU A (aM A) m = true → (msOf A t m || msOf A u m) = false) : lyB A t u = false := by
  have : quB A (lyW A t u) = true := quB_iff.mpr (zqu_mono (u := lqU A (aM A)) (fun m hm hx => by
    unfold lyW
    rw [lqU_sub hx, h m hm hx]; rfl) (quB_iff.mp (lqU_qu hq (aM A))))
  unfold lyB
  rw [this]
  simp
end zCf
