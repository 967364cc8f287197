/-! the reference's small readers -/
theorem nI_mod8 : ∀ n, n < 64 → nI n % 8 = nI (n % 8) := by decide +kernel
theorem nI_div8 : ∀ n, n < 64 → nI n / 8 = nI (n / 8) := by decide +kernel
theorem i64_toInt (a : Int32) : a.toInt64.toInt = a.toInt := Int32.toInt_toInt64 a
theorem zin_n (a : Int32) {N : Nat} (hN : N < 2 ^ 30) : (0 ≤ a.toInt64 ∧ a.toInt64 ≤ (nI N).toInt64 - 1) ↔ (0 ≤ a.toInt ∧ a.toInt < N) := by
  have e0 : (0 : Int64).toInt = 0 := rfl
  have e1 : (1 : Int64).toInt = 1 := rfl
  have eN : (nI N).toInt64.toInt = (N : Int) := by rw [i64_toInt, nI_toInt (by omega)]
  rw [Int64.le_iff_toInt_le, Int64.le_iff_toInt_le, e0, i64_toInt, fb_subL (by rw [eN, e1]; omega) (by rw [eN, e1]; omega), eN, e1]
  omega
theorem zin_c (a : Int32) {l h : Nat} (hl : l < 2 ^ 31) (hh : h < 2 ^ 31) : ((lN l) ≤ a.toInt64 ∧ a.toInt64 ≤ (lN h)) ↔ ((l : Int) ≤ a.toInt ∧ a.toInt ≤ h) := by
  have e : ∀ n, n < 2 ^ 31 → (lN n).toInt = (n : Int) := fun n hn => by rw [lN_ti (by omega), if_pos (by omega)]
  rw [Int64.le_iff_toInt_le, Int64.le_iff_toInt_le, e l hl, e h hh, i64_toInt]
/-- a number names a thing, a measure, a mover, a cell -/
def tI (A : zAb) (a : Int32) : Bool := decide (0 ≤ a.toInt) && decide (a.toInt < aN A)
def mI (A : zAb) (a : Int32) : Bool := decide (0 ≤ a.toInt) && decide (a.toInt < aM A)
def vI (A : zAb) (a : Int32) : Bool := decide (0 ≤ a.toInt) && decide (a.toInt < aV A)
def acI (A : zAb) (a : Int32) : Bool := decide (0 ≤ a.toInt) && acell A a.toInt.toNat
theorem zI_of {a : Int32} (h : 0 ≤ a.toInt) : a = nI a.toInt.toNat := by
  rw [← Int32.toInt_inj, nI_toInt (by have := fb_rng a; omega)]
  omega
theorem tI_nI {A : zAb} {a : Int32} (h : tI A a = true) : ∃ t, t < aN A ∧ a = nI t := by
  simp only [tI, Bool.and_eq_true, decide_eq_true_eq] at h
  exact ⟨a.toInt.toNat, by omega, zI_of h.1⟩
theorem mI_nI {A : zAb} {a : Int32} (h : mI A a = true) : ∃ t, t < aM A ∧ a = nI t := by
  simp only [mI, Bool.and_eq_true, decide_eq_true_eq] at h
  exact ⟨a.toInt.toNat, by omega, zI_of h.1⟩
theorem vI_nI {A : zAb} {a : Int32} (h : vI A a = true) : ∃ t, t < aV A ∧ a = nI t := by
  simp only [vI, Bool.and_eq_true, decide_eq_true_eq] at h
  exact ⟨a.toInt.toNat, by omega, zI_of h.1⟩
theorem acell_64 {A : zAb} {c : Nat} (h : acell A c = true) : c < 64 := by
  simp only [acell, Bool.and_eq_true, decide_eq_true_eq] at h
  exact h.1.1
theorem acI_nI {A : zAb} {a : Int32} (h : acI A a = true) : ∃ c, c < 64 ∧ acell A c = true ∧ a = nI c := by
  simp only [acI, Bool.and_eq_true, decide_eq_true_eq] at h
  exact ⟨a.toInt.toNat, acell_64 h.2, h.2, zI_of h.1⟩
theorem acI_of {A : zAb} {c : Nat} (hc : c < 2 ^ 31) : acI A (nI c) = acell A c := by
  unfold acI
  rw [nI_toInt hc]
  simp
theorem aAny_ex : True := trivial
def aAny (p : Nat → Bool) : Nat → Bool
  | 0 => false
  | n + 1 => aAny p n || p n
theorem aAny_iff {p : Nat → Bool} : ∀ {n : Nat}, aAny p n = true ↔ ∃ t, t < n ∧ p t = true
  | 0 => by simp [aAny]
  | n + 1 => by
    rw [aAny, Bool.or_eq_true, aAny_iff]
    constructor
    · rintro (⟨t, h1, h2⟩ | h)
      · exact ⟨t, by omega, h2⟩
      · exact ⟨n, by omega, h⟩
    · rintro ⟨t, h1, h2⟩
      by_cases e : t = n
      · subst e; exact Or.inr h2
      · exact Or.inl ⟨t, by omega, h2⟩
section zM1
variable {d kc ks : Nat} {σ : zSt} {A : zAb} {Q : Option zV → zSt → Prop}
theorem S_X12_isCell {ph : Bool} {K : Int32 → zSt → Prop} (hW : zWf A) (hR : zRM A σ) (c : Int32) (hK : K (zb (acI A c = true)) σ) : zCi ph (d + 2) 0 0 M_X12_isCell [.inr (.inr (54, 0)), .inl (c)] σ K := by
  refine zC_intro pl_X12 (Nat.le_of_ble_eq_true rfl) (T_X12_isCell_0 (fun y hy => ⟨_, rfl, ?_⟩))
  rw [hy, zb_of0 (P := acI A c = true) ?_]
  · exact hK
  · obtain ⟨⟨r1, r2, -⟩, -⟩ := hR
    obtain ⟨⟨w1, w2, w3, w4, -⟩, -⟩ := hW
    rw [r1, r2, zb_0, show (0 : Int64) = lN 0 from rfl, show (63 : Int64) = lN 63 from rfl, zin_c c (by omega) (by omega)]
    unfold acI acell
    simp only [Bool.and_eq_true, decide_eq_true_eq]
    by_cases h : (0 : Int) ≤ c.toInt ∧ c.toInt ≤ 63
    · have e := zI_of h.1
      have hn : c.toInt.toNat < 64 := by omega
      generalize c.toInt.toNat = n at e hn
      subst e
      rw [nI_toInt (by omega)] at h ⊢
      rw [nI_mod8 n hn, nI_div8 n hn, nI_leI (by omega) (by omega), nI_leI (by omega) (by omega)]
      omega
    · constructor
      · intro _ q
        apply h
        omega
      · intro _
        exact Or.inl (by simpa using h)
theorem S_X12_noThing {ph : Bool} {K : Int32 → zSt → Prop} (hW : zWf A) (hR : zRM A σ) (t : Int32) (hK : K (zb (¬ tI A t = true)) σ) : zCi ph (d + 2) 0 0 M_X12_noThing [.inr (.inr (54, 0)), .inl (t)] σ K := by
  refine zC_intro pl_X12 (Nat.le_of_ble_eq_true rfl) (T_X12_noThing_0 (fun y hy => ⟨_, rfl, ?_⟩))
  rw [hy, zb_of0 (P := ¬ tI A t = true) ?_]
  · exact hK
  · obtain ⟨⟨r1, r2, r3, -⟩, -⟩ := hR
    obtain ⟨⟨w1, w2, w3, w4, w5, -⟩, -⟩ := hW
    rw [r3, zb_0, zin_n t (by omega), Decidable.not_not, Decidable.not_not]
    simp [tI]
theorem S_X12_noMeasure {ph : Bool} {K : Int32 → zSt → Prop} (hW : zWf A) (hR : zRM A σ) (t : Int32) (hK : K (zb (¬ mI A t = true)) σ) : zCi ph (d + 2) 0 0 M_X12_noMeasure [.inr (.inr (54, 0)), .inl (t)] σ K := by
  refine zC_intro pl_X12 (Nat.le_of_ble_eq_true rfl) (T_X12_noMeasure_0 (fun y hy => ⟨_, rfl, ?_⟩))
  rw [hy, zb_of0 (P := ¬ mI A t = true) ?_]
  · exact hK
  · obtain ⟨⟨r1, r2, r3, r4, -⟩, -⟩ := hR
    obtain ⟨⟨w1, w2, w3, w4, w5, w6, -⟩, -⟩ := hW
    rw [r4, zb_0, zin_n t (by omega), Decidable.not_not, Decidable.not_not]
    simp [mI]
theorem S_X12_isFree {K : Int32 → zSt → Prop} (hW : zWf A) (hR : zRM A σ) (c : Nat) (hc : c < 2 ^ 31) (hK : K (zb (afree A c = true)) σ) : zCi true (d + 3) 0 0 M_X12_isFree [.inr (.inr (54, 0)), .inl (nI c)] σ K := by
  refine zC_intro pl_X12 (Nat.le_of_ble_eq_true rfl) (T_X12_isFree_0 (S_X12_isCell hW hR _ ?_))
  rw [acI_of hc]
  refine ⟨fun h => ?_, fun y hy => ⟨_, rfl, ?_⟩⟩
  · rw [zb_0, Decidable.not_not] at h
    exact nI_in (acell_64 h) (by omega)
  · rw [hy, zb_of0 (P := afree A c = true) ?_]
    · exact hK
    · rw [zb_0]
      by_cases h : acell A c = true
      · have h64 := acell_64 h
        rw [nI_clamp hc, hR.1.2.2.2.2.2.2 c h64, zb_0]
        simp [afree, h]
      · simp [afree, h]
/-- whether an anchor stands on a cell -/
def anAt (A : zAb) (c : Nat) : Bool := aAny (fun t => decide (0 < aK A t) && decide (aC A t = (c : Int))) (aN A)
theorem iI_cell {A : zAb} (hW : zWf A) {t c : Nat} (ht : t < aN A) (hc : c < 64) : (iI (aC A t) = nI c) ↔ aC A t = (c : Int) := by
  have h := hW.2.1 t ht
  have hr : -9 ≤ aC A t ∧ aC A t < 64 := by
    by_cases hk : aK A t = 0
    · have := h.2.2.1 hk; omega
    · obtain ⟨x, e, hx⟩ := h.2.1 (by omega)
      have : x < 64 := by unfold afree at hx; exact acell_64 (by simp at hx; exact hx.1)
      omega
  rw [← Int32.toInt_inj, iI_toInt (by omega) (by omega), nI_toInt (by omega)]
theorem L_X12_isAnchorAt (hW : zWf A) (hR : zRM A σ) {c : Nat} (hc : c < 64) (hQ : Q (some (.inl (zb (anAt A c = true)))) σ) : ∀ (n k : Nat), k + n = aN A → ∀ v2 : Int32, v2 = zb (aAny (fun t => decide (0 < aK A t) && decide (aC A t = (c : Int))) k = true) → zE true (d + 1) kc ks M_X12_isAnchorAt 4 [some (.inr (.inr (54, 0))), some (.inl (nI c)), some (.inl (v2)), some (.inl (nI k))] [] σ Q := by
  have hN : aN A ≤ 24 := hW.1.2.2.2.2.1
  intro n
  induction n with
  | zero =>
    intro k hk v2 hv
    have : k = aN A := by omega
    subst this
    subst hv
    refine T_X12_isAnchorAt_4 ⟨fun _ => ⟨zb_01, hQ⟩, fun h => ?_⟩
    exact absurd (by rw [hR.1.2.2.1]; exact Int32.le_refl _) h
  | succ n ih =>
    intro k hk v2 hv
    have hkN : k < aN A := by omega
    refine T_X12_isAnchorAt_4 ⟨fun h => ?_, fun _ => ⟨fun _ => nI_in (by omega) (by omega), fun _ _ => nI_in (by omega) (by omega), fun y hy => ?_⟩⟩
    · rw [hR.1.2.2.1, nI_leI (by omega) (by omega)] at h
      omega
    · rw [← nI_succ]
      refine ih (k + 1) (by omega) y ?_
      obtain ⟨q1, q2, -⟩ := hR.2.1 k hkN
      have hk2 := (hW.2.1 k hkN).1
      rw [hy]
      refine zb_of1 ?_
      rw [hv, zb_0, Decidable.not_not, nI_clamp (by omega), q1, q2, iI_cell hW hkN hc, show (0 : Int32) = nI 0 from rfl, nI_leI (by omega) (by omega)]
      rw [aAny, Bool.or_eq_true, Bool.and_eq_true, decide_eq_true_eq, decide_eq_true_eq, Nat.not_le]
theorem S_X12_isAnchorAt {K : Int32 → zSt → Prop} (hW : zWf A) (hR : zRM A σ) {c : Nat} (hc : c < 64) (hK : K (zb (anAt A c = true)) σ) : zCi true (d + 1) 0 0 M_X12_isAnchorAt [.inr (.inr (54, 0)), .inl (nI c)] σ K :=
  zC_intro pl_X12 (Nat.le_of_ble_eq_true rfl) (T_X12_isAnchorAt_0 (L_X12_isAnchorAt hW hR hc ⟨_, rfl, hK⟩ (aN A) 0 (by omega) 0 rfl))
/-- what is found anew -/
def zFl (c _j k : Nat) : Prop := c = 72 ∨ c = 54 ∧ (k = 25 ∨ k = 26 ∨ k = 27)
theorem S_X12_other {ph : Bool} {K : zSt → Prop} (hK : ∀ σ', zOnly (fun c _ k => c = 54 ∧ (k = 25 ∨ k = 26 ∨ k = 27)) σ σ' → zgi σ' 54 0 25 = 0 → zgi σ' 54 0 26 = 0 → zgi σ' 54 0 27 = 0 → K σ') : zCv ph (d + 1) 0 0 M_X12_other [.inr (.inr (54, 0))] σ K :=
  zC_intro pl_X12 (Nat.le_of_ble_eq_true rfl) (T_X12_other_0 ⟨rfl, hK _ (((zOnly.si (by simp)).tr (zOnly.si (by simp))).tr (zOnly.si (by simp))) (by simp [zgi_si]) (by simp [zgi_si]) (by simp [zgi_si])⟩)
theorem L_X12_otherField {K : zSt → Prop} {σ0 : zSt} (hK : ∀ σ', zOnly zFl σ0 σ' → (∀ m, m < 60 → zgi σ' 72 0 m = 0) → zgi σ' 54 0 25 = 0 → zgi σ' 54 0 26 = 0 → zgi σ' 54 0 27 = 0 → K σ') : ∀ (n k : Nat), k + n = 60 → ∀ σ : zSt, zOnly zFl σ0 σ → (∀ m, m < k → zgi σ 72 0 m = 0) → zE true (d + 2) kc ks M_X12_otherField 2 [some (.inr (.inr (54, 0))), some (.inl (nI k))] [] σ (fun r σ' => r = none ∧ K σ') := by
  intro n
  induction n with
  | zero =>
    intro k hk σ ho hz
    have : k = 60 := by omega
    subst this
    refine T_X12_otherField_2 ⟨fun _ => S_X12_other (fun σ' h1 h2 h3 h4 => ⟨rfl, hK σ' (ho.tr (h1.mono (fun c j k h => Or.inr h))) (fun m hm => ?_) h2 h3 h4⟩), fun h => absurd (show (60 : Int32) ≤ nI 60 by decide) h⟩
    rw [h1.i 72 0 m (by omega)]
    exact hz m hm
  | succ n ih =>
    intro k hk σ ho hz
    refine T_X12_otherField_2 ⟨fun h => ?_, fun _ => ⟨nI_in (by omega) (by omega), ?_⟩⟩
    · rw [show (60 : Int32) = nI 60 from rfl, nI_leI (by omega) (by omega)] at h
      omega
    · rw [← nI_succ, nI_clamp (by omega)]
      refine ih (k + 1) (by omega) _ (ho.tr (zOnly.si (Or.inl rfl))) (fun m hm => ?_)
      rw [zgi_si]
      by_cases e : m = k
      · simp [e]
      · rw [if_neg (fun q => e q.2.2)]
        exact hz m (by omega)
theorem S_X12_otherField {K : zSt → Prop} (hK : ∀ σ', zOnly zFl σ σ' → (∀ m, m < 60 → zgi σ' 72 0 m = 0) → zgi σ' 54 0 25 = 0 → zgi σ' 54 0 26 = 0 → zgi σ' 54 0 27 = 0 → K σ') : zCv true (d + 2) 0 0 M_X12_otherField [.inr (.inr (54, 0))] σ K :=
  zC_intro pl_X12 (Nat.le_of_ble_eq_true rfl) (T_X12_otherField_0 (L_X12_otherField hK 60 0 (by omega) σ zOnly.rf (fun m hm => by omega)))
end zM1
