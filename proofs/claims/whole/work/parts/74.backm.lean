/-! an image brought back (reference) -/
section zMl
variable {d kc ks : Nat} {σ : zSt} {A : zAb} {B : zSh} {Q : Option zV → zSt → Prop}
theorem zb_img {p : Prop} [Decidable p] : (if ¬ zb p = 1 then (0 : Int32) else 1) = zb p := zb_of0 (by rw [zb_1])
/-- places that back changes: a row, or a part of it -/
theorem L_X12_back438 {z : Nat} (hz : z + 800 ≤ 1600) {σ0 : zSt} {K : Int32 → zSt → Prop} (hQ : ∀ σ1 σ', zOnly (fun c _ _ => 69 ≤ c ∧ c ≤ 71) σ0 σ1 → (∀ v, v < 3 → zgi σ1 69 0 v = zgi σ0 92 0 (z + 670 + 3 * v) ∧ zgi σ1 70 0 v = zgi σ0 92 0 (z + 671 + 3 * v) ∧ zgi σ1 71 0 v = zgi σ0 92 0 (z + 672 + 3 * v)) → zOnly zFl σ1 σ' → (∀ m, m < 60 → zgi σ' 72 0 m = 0) → zgi σ' 54 0 25 = 0 → zgi σ' 54 0 26 = 0 → zgi σ' 54 0 27 = 0 → K 1 σ') : ∀ (n k : Nat), k + n = 3 → ∀ σ : zSt, zOnly (fun c _ _ => 69 ≤ c ∧ c ≤ 71) σ0 σ → (∀ v, v < k → zgi σ 69 0 v = zgi σ0 92 0 (z + 670 + 3 * v) ∧ zgi σ 70 0 v = zgi σ0 92 0 (z + 671 + 3 * v) ∧ zgi σ 71 0 v = zgi σ0 92 0 (z + 672 + 3 * v)) → zE true (d + 3) kc ks M_X12_back 438 [some (.inr (.inr (54, 0))), none, some (.inl (nI z)), some (.inl (nI k)), none, none] [] σ (fun r σ' => ∃ x, r = some (.inl x) ∧ K x σ') := by
  intro n
  induction n with
  | zero =>
    intro k hk σ ho h
    have : k = 3 := by omega
    subst this
    exact T_X12_back_438 ⟨fun _ => S_X12_otherField (fun σ' o1 z1 f1 f2 f3 => ⟨_, rfl, hQ σ σ' ho h o1 z1 f1 f2 f3⟩), fun h => absurd (show (3 : Int32) ≤ nI 3 by decide) h⟩
  | succ n ih =>
    intro k hk σ ho h
    have i3 : vp_in (nI k) 3 := nI_in (by omega) (by omega)
    refine T_X12_back_438 ⟨fun g => ?_, fun _ => ?_⟩
    · rw [show (3 : Int32) = nI 3 from rfl, nI_leI (by omega) (by omega)] at g
      omega
    · rw [nI_ad (x := 670) (n := 670) rfl, nI_ad (x := 671) (n := 671) rfl, nI_ad (x := 672) (n := 672) rfl, nI_mu (x := 3) (n := 3) rfl, nI_add, nI_add, nI_add, nI_clamp (show k < 2 ^ 31 by omega), nI_clamp (show z + 670 + 3 * k < 2 ^ 31 by omega), nI_clamp (show z + 671 + 3 * k < 2 ^ 31 by omega), nI_clamp (show z + 672 + 3 * k < 2 ^ 31 by omega), ← nI_succ]
      refine ⟨nI_in (by omega) (by omega), i3, nI_in (by omega) (by omega), i3, nI_in (by omega) (by omega), i3, ih (k + 1) (by omega) _ (((ho.tr (zOnly.si (by omega))).tr (zOnly.si (by omega))).tr (zOnly.si (by omega))) (fun v hv => ?_)⟩
      simp only [zgi_si]
      by_cases e : v = k
      · subst e
        rw [ho.i 92 0 _ (by omega), ho.i 92 0 _ (by omega), ho.i 92 0 _ (by omega)]
        simp
      · simp [e]
        exact h v (by omega)
/-- a measure taken out of the image -/
def bMs (σ0 σ : zSt) (z m : Nat) : Prop := zgi σ 63 0 m = zgi σ0 92 0 (z + 310 + 6 * m) ∧ zgi σ 64 0 m = zgi σ0 92 0 (z + 310 + 6 * m + 1) ∧ zgi σ 65 0 m = zgi σ0 92 0 (z + 310 + 6 * m + 2) ∧ zgi σ 66 0 m = zgi σ0 92 0 (z + 310 + 6 * m + 3) ∧ zgi σ 67 0 m = zgi σ0 92 0 (z + 310 + 6 * m + 4) ∧ zgi σ 68 0 m = (if ¬ zgi σ0 92 0 (z + 310 + 6 * m + 5) = 1 then 0 else 1)
theorem L_X12_back315 {z : Nat} (hz : z + 800 ≤ 1600) {σ0 : zSt} (hnext : ∀ σ', zOnly (fun c _ _ => 63 ≤ c ∧ c ≤ 68) σ0 σ' → (∀ m, m < 60 → bMs σ0 σ' z m) → zE true (d + 3) kc ks M_X12_back 438 [some (.inr (.inr (54, 0))), none, some (.inl (nI z)), some (.inl (0)), none, none] [] (σ') Q) : ∀ (n k : Nat), k + n = 60 → ∀ σ : zSt, zOnly (fun c _ _ => 63 ≤ c ∧ c ≤ 68) σ0 σ → (∀ m, m < k → bMs σ0 σ z m) → zE true (d + 3) kc ks M_X12_back 315 [some (.inr (.inr (54, 0))), none, some (.inl (nI z)), some (.inl (nI k)), none, none] [] σ Q := by
  intro n
  induction n with
  | zero =>
    intro k hk σ ho h
    have : k = 60 := by omega
    subst this
    exact T_X12_back_315 ⟨fun _ => hnext σ ho h, fun h => absurd (show (60 : Int32) ≤ nI 60 by decide) h⟩
  | succ n ih =>
    intro k hk σ ho h
    have i3 : vp_in (nI k) 60 := nI_in (by omega) (by omega)
    have cl : ∀ j, j < 6 → (nI (z + 310 + 6 * k + j)).toNatClampNeg = z + 310 + 6 * k + j := fun j hj => nI_clamp (by omega)
    have vi : ∀ j, j < 6 → vp_in (nI (z + 310 + 6 * k + j)) 1600 := fun j hj => nI_in (by omega) (by omega)
    refine T_X12_back_315 ⟨fun g => ?_, fun _ => ?_⟩
    · rw [show (60 : Int32) = nI 60 from rfl, nI_leI (by omega) (by omega)] at g
      omega
    · have c0 := cl 0 (by omega)
      have v0 := vi 0 (by omega)
      rw [Nat.add_zero] at c0 v0
      rw [nI_ad (x := 310) (n := 310) rfl, nI_mu (x := 6) (n := 6) rfl, nI_add, nI_ad (x := 1) (n := 1) rfl, nI_ad (x := 2) (n := 2) rfl, nI_ad (x := 3) (n := 3) rfl, nI_ad (x := 4) (n := 4) rfl, nI_ad (x := 5) (n := 5) rfl, nI_clamp (show k < 2 ^ 31 by omega), c0, cl 1 (by omega), cl 2 (by omega), cl 3 (by omega), cl 4 (by omega), cl 5 (by omega), ← nI_succ]
      refine ⟨v0, i3, vi 1 (by omega), i3, vi 2 (by omega), i3, vi 3 (by omega), i3, vi 4 (by omega), i3, vi 5 (by omega), fun x hx => ⟨i3, ih (k + 1) (by omega) _ ((((((ho.tr (zOnly.si (by omega))).tr (zOnly.si (by omega))).tr (zOnly.si (by omega))).tr (zOnly.si (by omega))).tr (zOnly.si (by omega))).tr (zOnly.si (by omega))) (fun m hm => ?_)⟩⟩
      have q : ∀ y, zgi σ 92 0 y = zgi σ0 92 0 y := fun y => ho.i 92 0 y (by omega)
      by_cases e : m = k
      · subst e
        unfold bMs
        rw [← q, ← q, ← q, ← q, ← q, ← q, ← hx]
        simp [zgi_si]
      · have g := h m (by omega)
        unfold bMs at g ⊢
        simp [zgi_si, e]
        simpa using g
/-- a thing taken out of the image -/
def bTh (σ0 σ : zSt) (z t : Nat) : Prop := zgi σ 56 0 t = zgi σ0 92 0 (z + 70 + 10 * t) ∧ zgi σ 57 0 t = zgi σ0 92 0 (z + 70 + 10 * t + 1) ∧ (∀ i, i < 4 → zgi σ 58 0 (4 * t + i) = zgi σ0 92 0 (z + 70 + 10 * t + 2 + i)) ∧ zgi σ 59 0 t = (if ¬ zgi σ0 92 0 (z + 70 + 10 * t + 6) = 1 then 0 else 1) ∧ zgi σ 60 0 t = zgi σ0 92 0 (z + 70 + 10 * t + 7) ∧ zgi σ 61 0 t = zgi σ0 92 0 (z + 70 + 10 * t + 8) ∧ zgi σ 62 0 t = zgi σ0 92 0 (z + 70 + 10 * t + 9)
/-- the places of a thing -/
abbrev zTq (t : Nat) (c _j k : Nat) : Prop := ((c = 56 ∨ c = 57 ∨ c = 59 ∨ c = 60 ∨ c = 61 ∨ c = 62) ∧ k = t) ∨ (c = 58 ∧ 4 * t ≤ k ∧ k < 4 * t + 4)
theorem bTh.of {σ0 σ σ' : zSt} {z t u : Nat} (h : bTh σ0 σ z t) (ho : zOnly (zTq u) σ σ') (hne : t ≠ u) : bTh σ0 σ' z t := by
  obtain ⟨h1, h2, h3, h4, h5, h6, h7⟩ := h
  refine ⟨?_, ?_, fun i hi => ?_, ?_, ?_, ?_, ?_⟩
  · rw [ho.i 56 0 _ (by unfold zTq; omega)]; exact h1
  · rw [ho.i 57 0 _ (by unfold zTq; omega)]; exact h2
  · rw [ho.i 58 0 _ (by unfold zTq; omega)]; exact h3 i hi
  · rw [ho.i 59 0 _ (by unfold zTq; omega)]; exact h4
  · rw [ho.i 60 0 _ (by unfold zTq; omega)]; exact h5
  · rw [ho.i 61 0 _ (by unfold zTq; omega)]; exact h6
  · rw [ho.i 62 0 _ (by unfold zTq; omega)]; exact h7
theorem L_X12_back199 {z t : Nat} (hz : z + 800 ≤ 1600) (ht : t < 24) {σ0 : zSt} (hnext : ∀ σ', zOnly (zTq t) σ0 σ' → bTh σ0 σ' z t → zE true (d + 3) kc ks M_X12_back 151 [some (.inr (.inr (54, 0))), none, some (.inl (nI z)), some (.inl (nI (t + 1))), none, none] [] (σ') Q) : ∀ (n k : Nat), k + n = 4 → ∀ σ : zSt, zOnly (zTq t) σ0 σ → zgi σ 56 0 t = zgi σ0 92 0 (z + 70 + 10 * t) → zgi σ 57 0 t = zgi σ0 92 0 (z + 70 + 10 * t + 1) → (∀ i, i < k → zgi σ 58 0 (4 * t + i) = zgi σ0 92 0 (z + 70 + 10 * t + 2 + i)) → zE true (d + 3) kc ks M_X12_back 199 [some (.inr (.inr (54, 0))), none, some (.inl (nI z)), some (.inl (nI t)), some (.inl (nI (z + 70 + 10 * t))), some (.inl (nI k))] [] σ Q := by
  have i24 : vp_in (nI t) 24 := nI_in (by omega) (by omega)
  intro n
  induction n with
  | zero =>
    intro k hk σ ho e0 e1 h
    have : k = 4 := by omega
    subst this
    have cl : ∀ j, j < 10 → (nI (z + 70 + 10 * t + j)).toNatClampNeg = z + 70 + 10 * t + j := fun j hj => nI_clamp (by omega)
    have vi : ∀ j, j < 10 → vp_in (nI (z + 70 + 10 * t + j)) 1600 := fun j hj => nI_in (by omega) (by omega)
    refine T_X12_back_199 ⟨fun _ => ?_, fun h => absurd (show (4 : Int32) ≤ nI 4 by decide) h⟩
    rw [nI_ad (x := 6) (n := 6) rfl, nI_ad (x := 7) (n := 7) rfl, nI_ad (x := 8) (n := 8) rfl, nI_ad (x := 9) (n := 9) rfl, nI_clamp (show t < 2 ^ 31 by omega), cl 6 (by omega), cl 7 (by omega), cl 8 (by omega), cl 9 (by omega), ← nI_succ]
    have q : ∀ y, zgi σ 92 0 y = zgi σ0 92 0 y := fun y => ho.i 92 0 y (by unfold zTq; omega)
    refine ⟨vi 6 (by omega), fun x hx => ⟨i24, vi 7 (by omega), i24, vi 8 (by omega), i24, vi 9 (by omega), i24, hnext _ ((((ho.tr (zOnly.si (by unfold zTq; omega))).tr (zOnly.si (by unfold zTq; omega))).tr (zOnly.si (by unfold zTq; omega))).tr (zOnly.si (by unfold zTq; omega))) ⟨?_, ?_, fun i hi => ?_, ?_, ?_, ?_, ?_⟩⟩⟩
    · simp [zgi_si]; exact e0
    · simp [zgi_si]; exact e1
    · simp [zgi_si]
      exact h i hi
    · rw [← q, ← hx]; simp [zgi_si]
    · rw [← q]; simp [zgi_si]
    · rw [← q]; simp [zgi_si]
    · rw [← q]; simp [zgi_si]
  | succ n ih =>
    intro k hk σ ho e0 e1 h
    refine T_X12_back_199 ⟨fun g => ?_, fun _ => ?_⟩
    · rw [show (4 : Int32) = nI 4 from rfl, nI_leI (by omega) (by omega)] at g
      omega
    · rw [nI_ad (x := 2) (n := 2) rfl, nI_mu (x := 4) (n := 4) rfl, nI_add, nI_add, nI_clamp (show z + 70 + 10 * t + 2 + k < 2 ^ 31 by omega), nI_clamp (show 4 * t + k < 2 ^ 31 by omega), ← nI_succ]
      refine ⟨nI_in (by omega) (by omega), nI_in (by omega) (by omega), ih (k + 1) (by omega) _ (ho.tr (zOnly.si (by unfold zTq; omega))) ?_ ?_ (fun i hi => ?_)⟩
      · rw [zgi_si, if_neg (by omega)]; exact e0
      · rw [zgi_si, if_neg (by omega)]; exact e1
      · rw [zgi_si]
        by_cases e : i = k
        · subst e
          rw [if_pos ⟨rfl, rfl, rfl⟩]
          exact ho.i 92 0 _ (by unfold zTq; omega)
        · rw [if_neg (by omega)]
          exact h i (by omega)
theorem L_X12_back151 {z : Nat} (hz : z + 800 ≤ 1600) {σ0 : zSt} (hnext : ∀ σ', zOnly (fun c _ _ => 56 ≤ c ∧ c ≤ 62) σ0 σ' → (∀ t, t < 24 → bTh σ0 σ' z t) → zE true (d + 3) kc ks M_X12_back 315 [some (.inr (.inr (54, 0))), none, some (.inl (nI z)), some (.inl (0)), none, none] [] (σ') Q) : ∀ (n k : Nat), k + n = 24 → ∀ σ : zSt, zOnly (fun c _ _ => 56 ≤ c ∧ c ≤ 62) σ0 σ → (∀ t, t < k → bTh σ0 σ z t) → zE true (d + 3) kc ks M_X12_back 151 [some (.inr (.inr (54, 0))), none, some (.inl (nI z)), some (.inl (nI k)), none, none] [] σ Q := by
  intro n
  induction n with
  | zero =>
    intro k hk σ ho h
    have : k = 24 := by omega
    subst this
    exact T_X12_back_151 ⟨fun _ => hnext σ ho h, fun h => absurd (show (24 : Int32) ≤ nI 24 by decide) h⟩
  | succ n ih =>
    intro k hk σ ho h
    have i24 : vp_in (nI k) 24 := nI_in (by omega) (by omega)
    refine T_X12_back_151 ⟨fun g => ?_, fun _ => ?_⟩
    · rw [show (24 : Int32) = nI 24 from rfl, nI_leI (by omega) (by omega)] at g
      omega
    · rw [nI_ad (x := 70) (n := 70) rfl, nI_mu (x := 10) (n := 10) rfl, nI_add, nI_ad (x := 1) (n := 1) rfl, nI_clamp (show k < 2 ^ 31 by omega), nI_clamp (show z + 70 + 10 * k < 2 ^ 31 by omega), nI_clamp (show z + 70 + 10 * k + 1 < 2 ^ 31 by omega)]
      refine ⟨nI_in (by omega) (by omega), i24, nI_in (by omega) (by omega), i24, L_X12_back199 hz (by omega) (σ0 := σ) (fun σ' o2 i2 => ih (k + 1) (by omega) σ' (ho.tr (o2.mono (fun c j e q => by unfold zTq at q; omega))) (fun t ht => ?_)) 4 0 rfl _ ((zOnly.si (by unfold zTq; omega)).tr (zOnly.si (by unfold zTq; omega))) ?_ ?_ (fun i hi => absurd hi (Nat.not_lt_zero i))⟩
      · by_cases e : t = k
        · subst e
          have q : ∀ x, zgi σ 92 0 x = zgi σ0 92 0 x := fun x => ho.i 92 0 x (by omega)
          unfold bTh at i2 ⊢
          simp only [q] at i2
          exact i2
        · exact (h t (by omega)).of o2 e
      · simp [zgi_si]
      · simp [zgi_si]
theorem L_X12_back111 {z : Nat} (hz : z + 800 ≤ 1600) {σ0 : zSt} (hnext : ∀ σ', zOnly (fun c _ _ => c = 55) σ0 σ' → (∀ c, c < 64 → zgi σ' 55 0 c = (if ¬ zgi σ0 92 0 (z + 6 + c) = 1 then 0 else 1)) → zE true (d + 3) kc ks M_X12_back 151 [some (.inr (.inr (54, 0))), none, some (.inl (nI z)), some (.inl (0)), none, none] [] (σ') Q) : ∀ (n k : Nat), k + n = 64 → ∀ σ : zSt, zOnly (fun c _ _ => c = 55) σ0 σ → (∀ c, c < k → zgi σ 55 0 c = (if ¬ zgi σ0 92 0 (z + 6 + c) = 1 then 0 else 1)) → zE true (d + 3) kc ks M_X12_back 111 [some (.inr (.inr (54, 0))), none, some (.inl (nI z)), some (.inl (nI k)), none, none] [] σ Q := by
  intro n
  induction n with
  | zero =>
    intro k hk σ ho h
    have : k = 64 := by omega
    subst this
    exact T_X12_back_111 ⟨fun _ => hnext σ ho h, fun h => absurd (show (64 : Int32) ≤ nI 64 by decide) h⟩
  | succ n ih =>
    intro k hk σ ho h
    refine T_X12_back_111 ⟨fun g => ?_, fun _ => ?_⟩
    · rw [show (64 : Int32) = nI 64 from rfl, nI_leI (by omega) (by omega)] at g
      omega
    · rw [nI_ad (x := 6) (n := 6) rfl, nI_add, nI_clamp (show k < 2 ^ 31 by omega), nI_clamp (show z + 6 + k < 2 ^ 31 by omega), ← nI_succ]
      refine ⟨nI_in (by omega) (by omega), fun x hx => ⟨nI_in (by omega) (by omega), ih (k + 1) (by omega) _ (ho.tr (zOnly.si rfl)) (fun c hc => ?_)⟩⟩
      rw [zgi_si]
      by_cases e : c = k
      · subst e
        rw [if_pos ⟨rfl, rfl, rfl⟩, hx, ho.i 92 0 _ (by omega)]
      · rw [if_neg (by omega)]
        exact h c (by omega)
abbrev zWq (c _j k : Nat) : Prop := (55 ≤ c ∧ c ≤ 72) ∨ (c = 54 ∧ (k = 1 ∨ k = 2 ∨ k = 4 ∨ k = 12 ∨ k = 19 ∨ k = 23 ∨ k = 25 ∨ k = 26 ∨ k = 27))
theorem O_X12_back {I : Nat → Bool × zAb} {K : Int32 → zSt → Prop} (hI : zRi I σ) (hIW : ∀ k, k < 2 → (I k).1 = true → zWf (I k).2) (a : Int32) (hno : ¬ (a = 0 ∨ a = 1) → K (-1) σ) (hst : ∀ k, k < 2 → a = nI k → (I k).1 = false → K (-3) σ) (hyes : ∀ k, k < 2 → a = nI k → (I k).1 = true → ∀ σ', zRM (I k).2 σ' → zCM (I k).2 σ' → zOnly zWq σ σ' → K 1 σ') : zCi true (d + 3) 0 0 M_X12_back [.inr (.inr (54, 0)), .inl (a)] σ K := by
  refine zC_intro pl_X12 (Nat.le_of_ble_eq_true rfl) (T_X12_back_0 ⟨fun h => ?_, fun h => ⟨_, rfl, hno ?_⟩⟩)
  · rw [zb_0, Decidable.not_not, i01] at h
    obtain ⟨k, hk, rfl⟩ : ∃ k, k < 2 ∧ a = nI k := by
      rcases h with rfl | rfl
      · exact ⟨0, by omega, rfl⟩
      · exact ⟨1, by omega, rfl⟩
    have cl : ∀ j, j < 10 → (nI (800 * k + j)).toNatClampNeg = 800 * k + j := fun j hj => nI_clamp (by omega)
    have vi : ∀ j, j < 10 → vp_in (nI (800 * k + j)) 1600 := fun j hj => nI_in (by omega) (by omega)
    have c0 := cl 0 (by omega)
    have v0 := vi 0 (by omega)
    rw [Nat.add_zero] at c0 v0
    obtain ⟨s1, s2⟩ := hI k hk
    rw [nI_mu (x := 800) (n := 800) rfl, nI_ad (x := 1) (n := 1) rfl, nI_ad (x := 2) (n := 2) rfl, nI_ad (x := 3) (n := 3) rfl, nI_ad (x := 4) (n := 4) rfl, nI_ad (x := 5) (n := 5) rfl, nI_clamp (show k < 2 ^ 31 by omega), c0, cl 1 (by omega), cl 2 (by omega), cl 3 (by omega), cl 4 (by omega), cl 5 (by omega), s1, zb_0]
    refine ⟨nI_in (by omega) (by omega), fun g => ⟨v0, vi 1 (by omega), vi 2 (by omega), vi 3 (by omega), vi 4 (by omega), vi 5 (by omega), fun x hx => ?_⟩, fun g => ⟨_, rfl, hst k hk rfl (by simpa using g)⟩⟩
    rw [Decidable.not_not] at g
    have hm := s2 g
    have hW := hIW k hk g
    have hy := hyes k hk rfl g
    generalize (I k).2 = A at hm hW hy
    have hN : aN A ≤ 24 := hW.1.2.2.2.2.1
    have hM : aM A ≤ 60 := hW.1.2.2.2.2.2.1
    have hV : aV A ≤ 3 := hW.1.2.2.2.2.2.2
    obtain ⟨⟨a1, a2, a3, a4, a5, a6, a7⟩, g2, g3, g4⟩ := hm
    rw [a1, a2, a3, a4, a5]
    have ex : x = zb (aAl A = true) := by rw [hx, a6]; exact zb_img
    rw [ex]
    have o0 : zOnly (fun c _ e => c = 54 ∧ (e = 1 ∨ e = 2 ∨ e = 4 ∨ e = 12 ∨ e = 19 ∨ e = 23)) σ (zsi (zsi (zsi (zsi (zsi (zsi σ 54 0 1 (nI (aW A))) 54 0 2 (nI (aH A))) 54 0 4 (nI (aN A))) 54 0 12 (nI (aM A))) 54 0 19 (nI (aV A))) 54 0 23 (zb (aAl A = true))) := (((((zOnly.si (by omega)).tr (zOnly.si (by omega))).tr (zOnly.si (by omega))).tr (zOnly.si (by omega))).tr (zOnly.si (by omega))).tr (zOnly.si (by omega))
    have e1 : zgi (zsi (zsi (zsi (zsi (zsi (zsi σ 54 0 1 (nI (aW A))) 54 0 2 (nI (aH A))) 54 0 4 (nI (aN A))) 54 0 12 (nI (aM A))) 54 0 19 (nI (aV A))) 54 0 23 (zb (aAl A = true))) 54 0 1 = nI (aW A) ∧ zgi (zsi (zsi (zsi (zsi (zsi (zsi σ 54 0 1 (nI (aW A))) 54 0 2 (nI (aH A))) 54 0 4 (nI (aN A))) 54 0 12 (nI (aM A))) 54 0 19 (nI (aV A))) 54 0 23 (zb (aAl A = true))) 54 0 2 = nI (aH A) ∧ zgi (zsi (zsi (zsi (zsi (zsi (zsi σ 54 0 1 (nI (aW A))) 54 0 2 (nI (aH A))) 54 0 4 (nI (aN A))) 54 0 12 (nI (aM A))) 54 0 19 (nI (aV A))) 54 0 23 (zb (aAl A = true))) 54 0 4 = nI (aN A) ∧ zgi (zsi (zsi (zsi (zsi (zsi (zsi σ 54 0 1 (nI (aW A))) 54 0 2 (nI (aH A))) 54 0 4 (nI (aN A))) 54 0 12 (nI (aM A))) 54 0 19 (nI (aV A))) 54 0 23 (zb (aAl A = true))) 54 0 12 = nI (aM A) ∧ zgi (zsi (zsi (zsi (zsi (zsi (zsi σ 54 0 1 (nI (aW A))) 54 0 2 (nI (aH A))) 54 0 4 (nI (aN A))) 54 0 12 (nI (aM A))) 54 0 19 (nI (aV A))) 54 0 23 (zb (aAl A = true))) 54 0 19 = nI (aV A) ∧ zgi (zsi (zsi (zsi (zsi (zsi (zsi σ 54 0 1 (nI (aW A))) 54 0 2 (nI (aH A))) 54 0 4 (nI (aN A))) 54 0 12 (nI (aM A))) 54 0 19 (nI (aV A))) 54 0 23 (zb (aAl A = true))) 54 0 23 = zb (aAl A = true) := by simp [zgi_si]
    generalize zsi (zsi (zsi (zsi (zsi (zsi σ 54 0 1 (nI (aW A))) 54 0 2 (nI (aH A))) 54 0 4 (nI (aN A))) 54 0 12 (nI (aM A))) 54 0 19 (nI (aV A))) 54 0 23 (zb (aAl A = true)) = τ at o0 e1 ⊢
    obtain ⟨d1, d2, d3, d4, d5, d6⟩ := e1
    refine L_X12_back111 (by omega) (σ0 := τ) (fun σ1 o1 h1 => L_X12_back151 (by omega) (σ0 := σ1) (fun σ2 o2 h2 => L_X12_back315 (by omega) (σ0 := σ2) (fun σ3 o3 h3 => L_X12_back438 (by omega) (σ0 := σ3) (K := K) (fun σ4 σ5 o4 h4 o5 z5 f1 f2 f3 => ?_) 3 0 rfl σ3 zOnly.rf (fun v hv => absurd hv (Nat.not_lt_zero v))) 60 0 rfl σ2 zOnly.rf (fun v hv => absurd hv (Nat.not_lt_zero v))) 24 0 rfl σ1 zOnly.rf (fun v hv => absurd hv (Nat.not_lt_zero v))) 64 0 rfl τ zOnly.rf (fun v hv => absurd hv (Nat.not_lt_zero v))
    have q0 : ∀ y, zgi τ 92 0 y = zgi σ 92 0 y := fun y => o0.i 92 0 y (by omega)
    have q1 : ∀ y, zgi σ1 92 0 y = zgi σ 92 0 y := fun y => (o1.i 92 0 y (by omega)).trans (q0 y)
    have q2 : ∀ y, zgi σ2 92 0 y = zgi σ 92 0 y := fun y => (o2.i 92 0 y (by omega)).trans (q1 y)
    have q3 : ∀ y, zgi σ3 92 0 y = zgi σ 92 0 y := fun y => (o3.i 92 0 y (by omega)).trans (q2 y)
    have t5 : zOnly (fun c j k => 55 ≤ c ∧ c ≤ 71 ∨ zFl c j k) τ σ5 := ((((o1.mono (fun c j k h => Or.inl (by omega))).tr (o2.mono (fun c j k h => Or.inl (by omega)))).tr (o3.mono (fun c j k h => Or.inl (by omega)))).tr (o4.mono (fun c j k h => Or.inl (by omega)))).tr (o5.mono (fun c j k h => Or.inr h))
    have p1 : ∀ x, zgi σ5 55 0 x = zgi σ1 55 0 x := fun x => by rw [o5.i 55 0 x (by unfold zFl; omega), o4.i 55 0 x (by omega), o3.i 55 0 x (by omega), o2.i 55 0 x (by omega)]
    have p2 : ∀ c x, 56 ≤ c → c ≤ 62 → zgi σ5 c 0 x = zgi σ2 c 0 x := fun c x l1 l2 => by rw [o5.i c 0 x (by unfold zFl; omega), o4.i c 0 x (by omega), o3.i c 0 x (by omega)]
    have p3 : ∀ c x, 63 ≤ c → c ≤ 68 → zgi σ5 c 0 x = zgi σ3 c 0 x := fun c x l1 l2 => by rw [o5.i c 0 x (by unfold zFl; omega), o4.i c 0 x (by omega)]
    have p4 : ∀ c x, 69 ≤ c → c ≤ 71 → zgi σ5 c 0 x = zgi σ4 c 0 x := fun c x l1 l2 => by rw [o5.i c 0 x (by unfold zFl; omega)]
    refine hy σ5 ⟨⟨?_, ?_, ?_, ?_, ?_, ?_, fun c hc => ?_⟩, fun t ht => ?_, fun m hm => ?_, fun v hv => ?_⟩ (zCM.ch (zLdI.zero hW z5) f1 f2 f3) ((o0.mono (fun c j k h => by unfold zWq; omega)).tr (t5.mono (fun c j k h => by unfold zFl at h; unfold zWq; omega)))
    · rw [t5.i 54 0 1 (by unfold zFl; omega)]; exact d1
    · rw [t5.i 54 0 2 (by unfold zFl; omega)]; exact d2
    · rw [t5.i 54 0 4 (by unfold zFl; omega)]; exact d3
    · rw [t5.i 54 0 12 (by unfold zFl; omega)]; exact d4
    · rw [t5.i 54 0 19 (by unfold zFl; omega)]; exact d5
    · rw [t5.i 54 0 23 (by unfold zFl; omega)]; exact d6
    · rw [p1, h1 c hc, q0, a7 c hc]; exact zb_img
    · obtain ⟨t1, t2, t3, t4, t5, t6, t7⟩ := h2 t (by omega)
      obtain ⟨r1, r2, r3, r4, r5, r6, r7, r8, r9, r10⟩ := g2 t ht
      have b0 := t3 0 (by omega)
      have b1 := t3 1 (by omega)
      have b2 := t3 2 (by omega)
      have b3 := t3 3 (by omega)
      simp only [Nat.add_zero] at b0
      rw [p2 56 _ (by omega) (by omega), p2 57 _ (by omega) (by omega), p2 58 _ (by omega) (by omega), p2 58 _ (by omega) (by omega), p2 58 _ (by omega) (by omega), p2 58 _ (by omega) (by omega), p2 59 _ (by omega) (by omega), p2 60 _ (by omega) (by omega), p2 61 _ (by omega) (by omega), p2 62 _ (by omega) (by omega), t1, t2, b0, b1, b2, b3, t4, t5, t6, t7, q1, q1, q1, q1, q1, q1, q1, q1, q1, q1]
      refine ⟨r1, r2, r3, r4, r5, r6, ?_, r8, r9, r10⟩
      rw [r7]; exact zb_img
    · obtain ⟨t1, t2, t3, t4, t5, t6⟩ := h3 m (by omega)
      obtain ⟨r1, r2, r3, r4, r5, r6⟩ := g3 m hm
      rw [p3 63 _ (by omega) (by omega), p3 64 _ (by omega) (by omega), p3 65 _ (by omega) (by omega), p3 66 _ (by omega) (by omega), p3 67 _ (by omega) (by omega), p3 68 _ (by omega) (by omega), t1, t2, t3, t4, t5, t6, q2, q2, q2, q2, q2, q2]
      refine ⟨r1, r2, r3, r4, r5, ?_⟩
      rw [r6]; exact zb_img
    · obtain ⟨t1, t2, t3⟩ := h4 v (by omega)
      obtain ⟨r1, r2, r3⟩ := g4 v hv
      rw [p4 69 _ (by omega) (by omega), p4 70 _ (by omega) (by omega), p4 71 _ (by omega) (by omega), t1, t2, t3, q3, q3, q3]
      exact ⟨r1, r2, r3⟩
  · rw [zb_0, i01] at h
    exact h
end zMl
