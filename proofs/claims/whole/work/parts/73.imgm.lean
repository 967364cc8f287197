/-! images of the desk (reference): 800 numbers each -/
def zIm (A : zAb) (σ : zSt) (z : Nat) : Prop := (zgi σ 92 0 z = nI (aW A) ∧ zgi σ 92 0 (z + 1) = nI (aH A) ∧ zgi σ 92 0 (z + 2) = nI (aN A) ∧ zgi σ 92 0 (z + 3) = nI (aM A) ∧ zgi σ 92 0 (z + 4) = nI (aV A) ∧ zgi σ 92 0 (z + 5) = zb (aAl A = true) ∧ ∀ c, c < 64 → zgi σ 92 0 (z + 6 + c) = zb (aWl A c = true)) ∧
  (∀ t, t < aN A → zgi σ 92 0 (z + 70 + 10 * t) = nI (aK A t) ∧ zgi σ 92 0 (z + 70 + 10 * t + 1) = iI (aC A t) ∧ zgi σ 92 0 (z + 70 + 10 * t + 2) = nI (aX1 A t) ∧ zgi σ 92 0 (z + 70 + 10 * t + 3) = nI (aY1 A t) ∧ zgi σ 92 0 (z + 70 + 10 * t + 4) = nI (aX2 A t) ∧ zgi σ 92 0 (z + 70 + 10 * t + 5) = nI (aY2 A t) ∧ zgi σ 92 0 (z + 70 + 10 * t + 6) = zb (aTr A t = true) ∧ zgi σ 92 0 (z + 70 + 10 * t + 7) = iI (aMo A t) ∧ zgi σ 92 0 (z + 70 + 10 * t + 8) = iI (aTi A t) ∧ zgi σ 92 0 (z + 70 + 10 * t + 9) = iI (aMp A t)) ∧
  (∀ m, m < aM A → zgi σ 92 0 (z + 310 + 6 * m) = nI (mK A m) ∧ zgi σ 92 0 (z + 310 + 6 * m + 1) = nI (mA A m) ∧ zgi σ 92 0 (z + 310 + 6 * m + 2) = nI (mB A m) ∧ zgi σ 92 0 (z + 310 + 6 * m + 3) = nI (mP A m) ∧ zgi σ 92 0 (z + 310 + 6 * m + 4) = nI (mQ A m) ∧ zgi σ 92 0 (z + 310 + 6 * m + 5) = zb (mO A m = true)) ∧
  (∀ v, v < aV A → zgi σ 92 0 (z + 670 + 3 * v) = nI (vF A v) ∧ zgi σ 92 0 (z + 671 + 3 * v) = nI (vT A v) ∧ zgi σ 92 0 (z + 672 + 3 * v) = nI (vR A v))
def zRi (I : Nat → Bool × zAb) (σ : zSt) : Prop := ∀ k, k < 2 → zgi σ 91 0 k = zb ((I k).1 = true) ∧ ((I k).1 = true → zIm (I k).2 σ (800 * k))
def iSet (I : Nat → Bool × zAb) (k : Nat) (A : zAb) : Nat → Bool × zAb := fun i => if i = k then (true, A) else I i
theorem zIm.of {A : zAb} {σ σ' : zSt} {z : Nat} (hW : zWf A) (h : zIm A σ z) (he : ∀ k, z ≤ k → k < z + 800 → zgi σ' 92 0 k = zgi σ 92 0 k) : zIm A σ' z := by
  have w := hW.1
  obtain ⟨⟨a1, a2, a3, a4, a5, a6, a7⟩, h2, h3, h4⟩ := h
  refine ⟨⟨?_, ?_, ?_, ?_, ?_, ?_, fun c hc => ?_⟩, fun t ht => ?_, fun m hm => ?_, fun v hv => ?_⟩
  · rw [he _ (by omega) (by omega)]; exact a1
  · rw [he _ (by omega) (by omega)]; exact a2
  · rw [he _ (by omega) (by omega)]; exact a3
  · rw [he _ (by omega) (by omega)]; exact a4
  · rw [he _ (by omega) (by omega)]; exact a5
  · rw [he _ (by omega) (by omega)]; exact a6
  · rw [he _ (by omega) (by omega)]; exact a7 c hc
  · rw [he _ (by omega) (by omega), he _ (by omega) (by omega), he _ (by omega) (by omega), he _ (by omega) (by omega), he _ (by omega) (by omega), he _ (by omega) (by omega), he _ (by omega) (by omega), he _ (by omega) (by omega), he _ (by omega) (by omega), he _ (by omega) (by omega)]
    exact h2 t ht
  · rw [he _ (by omega) (by omega), he _ (by omega) (by omega), he _ (by omega) (by omega), he _ (by omega) (by omega), he _ (by omega) (by omega), he _ (by omega) (by omega)]
    exact h3 m hm
  · rw [he _ (by omega) (by omega), he _ (by omega) (by omega), he _ (by omega) (by omega)]
    exact h4 v hv
theorem nI_ad {x : Int32} {n : Nat} (h : x = nI n) (a : Nat) : nI a + x = nI (a + n) := by rw [h, nI_add]
theorem nI_mu {x : Int32} {n : Nat} (h : x = nI n) (a : Nat) : x * nI a = nI (n * a) := by rw [h, nI_mul]
section zMk
variable {d kc ks : Nat} {σ : zSt} {A : zAb} {B : zSh} {Q : Option zV → zSt → Prop}
abbrev zKq (z a b : Nat) (c _j k : Nat) : Prop := c = 92 ∧ z + a ≤ k ∧ k < z + b
theorem L_X12_keep409 {z : Nat} (hz : z + 800 ≤ 1600) {σ0 : zSt} (hQ : ∀ σ', zOnly (zKq z 670 679) σ0 σ' → (∀ v, v < 3 → zgi σ' 92 0 (z + 670 + 3 * v) = zgi σ0 69 0 v ∧ zgi σ' 92 0 (z + 671 + 3 * v) = zgi σ0 70 0 v ∧ zgi σ' 92 0 (z + 672 + 3 * v) = zgi σ0 71 0 v) → Q (some (.inl 1)) σ') : ∀ (n k : Nat), k + n = 3 → ∀ σ : zSt, zOnly (zKq z 670 679) σ0 σ → (∀ v, v < k → zgi σ 92 0 (z + 670 + 3 * v) = zgi σ0 69 0 v ∧ zgi σ 92 0 (z + 671 + 3 * v) = zgi σ0 70 0 v ∧ zgi σ 92 0 (z + 672 + 3 * v) = zgi σ0 71 0 v) → zE true (d + 2) kc ks M_X12_keep 409 [some (.inr (.inr (54, 0))), none, some (.inl (nI z)), some (.inl (nI k)), none, none] [] σ Q := by
  intro n
  induction n with
  | zero =>
    intro k hk σ ho h
    have : k = 3 := by omega
    subst this
    exact T_X12_keep_409 ⟨fun _ => hQ σ ho h, fun h => absurd (show (3 : Int32) ≤ nI 3 by decide) h⟩
  | succ n ih =>
    intro k hk σ ho h
    have i3 : vp_in (nI k) 3 := nI_in (by omega) (by omega)
    refine T_X12_keep_409 ⟨fun g => ?_, fun _ => ?_⟩
    · rw [show (3 : Int32) = nI 3 from rfl, nI_leI (by omega) (by omega)] at g
      omega
    · rw [nI_ad (x := 670) (n := 670) rfl, nI_ad (x := 671) (n := 671) rfl, nI_ad (x := 672) (n := 672) rfl, nI_mu (x := 3) (n := 3) rfl, nI_add, nI_add, nI_add, nI_clamp (show k < 2 ^ 31 by omega), nI_clamp (show z + 670 + 3 * k < 2 ^ 31 by omega), nI_clamp (show z + 671 + 3 * k < 2 ^ 31 by omega), nI_clamp (show z + 672 + 3 * k < 2 ^ 31 by omega), ← nI_succ]
      refine ⟨i3, nI_in (by omega) (by omega), i3, nI_in (by omega) (by omega), i3, nI_in (by omega) (by omega), ih (k + 1) (by omega) _ (((ho.tr (zOnly.si (by unfold zKq; omega))).tr (zOnly.si (by unfold zKq; omega))).tr (zOnly.si (by unfold zKq; omega))) (fun v hv => ?_)⟩
      simp only [zgi_si]
      by_cases e : v = k
      · subst e
        rw [ho.i 69 0 v (by unfold zKq; omega), ho.i 70 0 v (by unfold zKq; omega), ho.i 71 0 v (by unfold zKq; omega)]
        simp [show ¬ (z + 670 + 3 * v = z + 672 + 3 * v) by omega, show ¬ (z + 670 + 3 * v = z + 671 + 3 * v) by omega, show ¬ (z + 671 + 3 * v = z + 672 + 3 * v) by omega]
      · have q := h v (by omega)
        simp [show ¬ (z + 670 + 3 * v = z + 672 + 3 * k) by omega, show ¬ (z + 670 + 3 * v = z + 671 + 3 * k) by omega, show ¬ (z + 670 + 3 * v = z + 670 + 3 * k) by omega, show ¬ (z + 671 + 3 * v = z + 672 + 3 * k) by omega, show ¬ (z + 671 + 3 * v = z + 671 + 3 * k) by omega, show ¬ (z + 671 + 3 * v = z + 670 + 3 * k) by omega, show ¬ (z + 672 + 3 * v = z + 672 + 3 * k) by omega, show ¬ (z + 672 + 3 * v = z + 671 + 3 * k) by omega, show ¬ (z + 672 + 3 * v = z + 670 + 3 * k) by omega, show ¬ (3 * v = 3 * k) by omega, e]
        exact q
/-- a measure's six numbers in the image -/
def iMs (σ0 σ : zSt) (z m : Nat) : Prop := zgi σ 92 0 (z + 310 + 6 * m) = zgi σ0 63 0 m ∧ zgi σ 92 0 (z + 310 + 6 * m + 1) = zgi σ0 64 0 m ∧ zgi σ 92 0 (z + 310 + 6 * m + 2) = zgi σ0 65 0 m ∧ zgi σ 92 0 (z + 310 + 6 * m + 3) = zgi σ0 66 0 m ∧ zgi σ 92 0 (z + 310 + 6 * m + 4) = zgi σ0 67 0 m ∧ zgi σ 92 0 (z + 310 + 6 * m + 5) = zb (¬ zgi σ0 68 0 m = 0)
theorem iMs.of {σ0 σ σ' : zSt} {z m : Nat} (h : iMs σ0 σ z m) (he : ∀ k, z + 310 + 6 * m ≤ k → k < z + 310 + 6 * m + 6 → zgi σ' 92 0 k = zgi σ 92 0 k) : iMs σ0 σ' z m := by
  unfold iMs
  rw [he _ (by omega) (by omega), he _ (by omega) (by omega), he _ (by omega) (by omega), he _ (by omega) (by omega), he _ (by omega) (by omega), he _ (by omega) (by omega)]
  exact h
theorem L_X12_keep292 {z : Nat} (hz : z + 800 ≤ 1600) {σ0 : zSt} (hnext : ∀ σ', zOnly (zKq z 310 670) σ0 σ' → (∀ m, m < 60 → iMs σ0 σ' z m) → zE true (d + 2) kc ks M_X12_keep 409 [some (.inr (.inr (54, 0))), none, some (.inl (nI z)), some (.inl (0)), none, none] [] (σ') Q) : ∀ (n k : Nat), k + n = 60 → ∀ σ : zSt, zOnly (zKq z 310 670) σ0 σ → (∀ m, m < k → iMs σ0 σ z m) → zE true (d + 2) kc ks M_X12_keep 292 [some (.inr (.inr (54, 0))), none, some (.inl (nI z)), some (.inl (nI k)), none, none] [] σ Q := by
  intro n
  induction n with
  | zero =>
    intro k hk σ ho h
    have : k = 60 := by omega
    subst this
    exact T_X12_keep_292 ⟨fun _ => hnext σ ho h, fun h => absurd (show (60 : Int32) ≤ nI 60 by decide) h⟩
  | succ n ih =>
    intro k hk σ ho h
    have i3 : vp_in (nI k) 60 := nI_in (by omega) (by omega)
    have cl : ∀ j, j < 6 → (nI (z + 310 + 6 * k + j)).toNatClampNeg = z + 310 + 6 * k + j := fun j hj => nI_clamp (by omega)
    have vi : ∀ j, j < 6 → vp_in (nI (z + 310 + 6 * k + j)) 1600 := fun j hj => nI_in (by omega) (by omega)
    refine T_X12_keep_292 ⟨fun g => ?_, fun _ => ?_⟩
    · rw [show (60 : Int32) = nI 60 from rfl, nI_leI (by omega) (by omega)] at g
      omega
    · have c0 := cl 0 (by omega)
      have v0 := vi 0 (by omega)
      rw [Nat.add_zero] at c0 v0
      rw [nI_ad (x := 310) (n := 310) rfl, nI_mu (x := 6) (n := 6) rfl, nI_add, nI_ad (x := 1) (n := 1) rfl, nI_ad (x := 2) (n := 2) rfl, nI_ad (x := 3) (n := 3) rfl, nI_ad (x := 4) (n := 4) rfl, nI_ad (x := 5) (n := 5) rfl, nI_clamp (show k < 2 ^ 31 by omega), c0, cl 1 (by omega), cl 2 (by omega), cl 3 (by omega), cl 4 (by omega), cl 5 (by omega), ← nI_succ]
      have o1 : zOnly (zKq z (310 + 6 * k) (310 + 6 * k + 6)) σ (zsi (zsi (zsi (zsi (zsi (zsi σ 92 0 (z + 310 + 6 * k) (zgi σ 63 0 k)) 92 0 (z + 310 + 6 * k + 1) (zgi σ 64 0 k)) 92 0 (z + 310 + 6 * k + 2) (zgi σ 65 0 k)) 92 0 (z + 310 + 6 * k + 3) (zgi σ 66 0 k)) 92 0 (z + 310 + 6 * k + 4) (zgi σ 67 0 k)) 92 0 (z + 310 + 6 * k + 5) (zb (¬ zgi σ 68 0 k = 0))) := (((((zOnly.si (by unfold zKq; omega)).tr (zOnly.si (by unfold zKq; omega))).tr (zOnly.si (by unfold zKq; omega))).tr (zOnly.si (by unfold zKq; omega))).tr (zOnly.si (by unfold zKq; omega))).tr (zOnly.si (by unfold zKq; omega))
      refine ⟨i3, v0, i3, vi 1 (by omega), i3, vi 2 (by omega), i3, vi 3 (by omega), i3, vi 4 (by omega), i3, vi 5 (by omega), ih (k + 1) (by omega) _ (ho.tr (o1.mono (fun c j e q => by unfold zKq at q ⊢; omega))) (fun m hm => ?_)⟩
      by_cases e : m = k
      · subst e
        have q : ∀ c, c ≠ 92 → zgi σ c 0 m = zgi σ0 c 0 m := fun c hc => ho.i c 0 m (by unfold zKq; omega)
        unfold iMs
        rw [← q 63 (by omega), ← q 64 (by omega), ← q 65 (by omega), ← q 66 (by omega), ← q 67 (by omega), ← q 68 (by omega)]
        simp [zgi_si]
      · exact (h m (by omega)).of (fun x h1 h2 => o1.i 92 0 x (by unfold zKq; omega))
/-- a thing's ten numbers in the image -/
def iTh (σ0 σ : zSt) (z t : Nat) : Prop := zgi σ 92 0 (z + 70 + 10 * t) = zgi σ0 56 0 t ∧ zgi σ 92 0 (z + 70 + 10 * t + 1) = zgi σ0 57 0 t ∧ (∀ i, i < 4 → zgi σ 92 0 (z + 70 + 10 * t + 2 + i) = zgi σ0 58 0 (4 * t + i)) ∧ zgi σ 92 0 (z + 70 + 10 * t + 6) = zb (¬ zgi σ0 59 0 t = 0) ∧ zgi σ 92 0 (z + 70 + 10 * t + 7) = zgi σ0 60 0 t ∧ zgi σ 92 0 (z + 70 + 10 * t + 8) = zgi σ0 61 0 t ∧ zgi σ 92 0 (z + 70 + 10 * t + 9) = zgi σ0 62 0 t
theorem iTh.of {σ0 σ σ' : zSt} {z t : Nat} (h : iTh σ0 σ z t) (he : ∀ k, z + 70 + 10 * t ≤ k → k < z + 70 + 10 * t + 10 → zgi σ' 92 0 k = zgi σ 92 0 k) : iTh σ0 σ' z t := by
  obtain ⟨h1, h2, h3, h4, h5, h6, h7⟩ := h
  refine ⟨?_, ?_, fun i hi => ?_, ?_, ?_, ?_, ?_⟩
  · rw [he _ (by omega) (by omega)]; exact h1
  · rw [he _ (by omega) (by omega)]; exact h2
  · rw [he _ (by omega) (by omega)]; exact h3 i hi
  · rw [he _ (by omega) (by omega)]; exact h4
  · rw [he _ (by omega) (by omega)]; exact h5
  · rw [he _ (by omega) (by omega)]; exact h6
  · rw [he _ (by omega) (by omega)]; exact h7
theorem L_X12_keep182 {z t : Nat} (hz : z + 800 ≤ 1600) (ht : t < 24) {σ0 : zSt} (hnext : ∀ σ', zOnly (zKq z (70 + 10 * t) (70 + 10 * t + 10)) σ0 σ' → iTh σ0 σ' z t → zE true (d + 2) kc ks M_X12_keep 134 [some (.inr (.inr (54, 0))), none, some (.inl (nI z)), some (.inl (nI (t + 1))), none, none] [] (σ') Q) : ∀ (n k : Nat), k + n = 4 → ∀ σ : zSt, zOnly (zKq z (70 + 10 * t) (70 + 10 * t + 10)) σ0 σ → zgi σ 92 0 (z + 70 + 10 * t) = zgi σ0 56 0 t → zgi σ 92 0 (z + 70 + 10 * t + 1) = zgi σ0 57 0 t → (∀ i, i < k → zgi σ 92 0 (z + 70 + 10 * t + 2 + i) = zgi σ0 58 0 (4 * t + i)) → zE true (d + 2) kc ks M_X12_keep 182 [some (.inr (.inr (54, 0))), none, some (.inl (nI z)), some (.inl (nI t)), some (.inl (nI (z + 70 + 10 * t))), some (.inl (nI k))] [] σ Q := by
  have i24 : vp_in (nI t) 24 := nI_in (by omega) (by omega)
  intro n
  induction n with
  | zero =>
    intro k hk σ ho e0 e1 h
    have : k = 4 := by omega
    subst this
    have cl : ∀ j, j < 10 → (nI (z + 70 + 10 * t + j)).toNatClampNeg = z + 70 + 10 * t + j := fun j hj => nI_clamp (by omega)
    have vi : ∀ j, j < 10 → vp_in (nI (z + 70 + 10 * t + j)) 1600 := fun j hj => nI_in (by omega) (by omega)
    refine T_X12_keep_182 ⟨fun _ => ?_, fun h => absurd (show (4 : Int32) ≤ nI 4 by decide) h⟩
    rw [nI_ad (x := 6) (n := 6) rfl, nI_ad (x := 7) (n := 7) rfl, nI_ad (x := 8) (n := 8) rfl, nI_ad (x := 9) (n := 9) rfl, nI_clamp (show t < 2 ^ 31 by omega), cl 6 (by omega), cl 7 (by omega), cl 8 (by omega), cl 9 (by omega), ← nI_succ]
    have q : ∀ c, c ≠ 92 → zgi σ c 0 t = zgi σ0 c 0 t := fun c hc => ho.i c 0 t (by unfold zKq; omega)
    refine ⟨i24, vi 6 (by omega), i24, vi 7 (by omega), i24, vi 8 (by omega), i24, vi 9 (by omega), hnext _ ((((ho.tr (zOnly.si (by unfold zKq; omega))).tr (zOnly.si (by unfold zKq; omega))).tr (zOnly.si (by unfold zKq; omega))).tr (zOnly.si (by unfold zKq; omega))) ⟨?_, ?_, fun i hi => ?_, ?_, ?_, ?_, ?_⟩⟩
    · simp [zgi_si]; exact e0
    · simp [zgi_si]; exact e1
    · simp [zgi_si, show ¬ (z + 70 + 10 * t + 2 + i = z + 70 + 10 * t + 9) by omega, show ¬ (z + 70 + 10 * t + 2 + i = z + 70 + 10 * t + 8) by omega, show ¬ (z + 70 + 10 * t + 2 + i = z + 70 + 10 * t + 7) by omega, show ¬ (z + 70 + 10 * t + 2 + i = z + 70 + 10 * t + 6) by omega]
      exact h i hi
    · rw [← q 59 (by omega)]; simp [zgi_si]
    · rw [← q 60 (by omega)]; simp [zgi_si]
    · rw [← q 61 (by omega)]; simp [zgi_si]
    · rw [← q 62 (by omega)]; simp [zgi_si]
  | succ n ih =>
    intro k hk σ ho e0 e1 h
    refine T_X12_keep_182 ⟨fun g => ?_, fun _ => ?_⟩
    · rw [show (4 : Int32) = nI 4 from rfl, nI_leI (by omega) (by omega)] at g
      omega
    · rw [nI_ad (x := 2) (n := 2) rfl, nI_mu (x := 4) (n := 4) rfl, nI_add, nI_add, nI_clamp (show z + 70 + 10 * t + 2 + k < 2 ^ 31 by omega), nI_clamp (show 4 * t + k < 2 ^ 31 by omega), ← nI_succ]
      refine ⟨nI_in (by omega) (by omega), nI_in (by omega) (by omega), ih (k + 1) (by omega) _ (ho.tr (zOnly.si (by unfold zKq; omega))) ?_ ?_ (fun i hi => ?_)⟩
      · rw [zgi_si, if_neg (by omega)]; exact e0
      · rw [zgi_si, if_neg (by omega)]; exact e1
      · rw [zgi_si]
        by_cases e : i = k
        · subst e
          rw [if_pos ⟨rfl, rfl, rfl⟩]
          exact ho.i 58 0 _ (by unfold zKq; omega)
        · rw [if_neg (by omega)]
          exact h i (by omega)
theorem L_X12_keep134 {z : Nat} (hz : z + 800 ≤ 1600) {σ0 : zSt} (hnext : ∀ σ', zOnly (zKq z 70 310) σ0 σ' → (∀ t, t < 24 → iTh σ0 σ' z t) → zE true (d + 2) kc ks M_X12_keep 292 [some (.inr (.inr (54, 0))), none, some (.inl (nI z)), some (.inl (0)), none, none] [] (σ') Q) : ∀ (n k : Nat), k + n = 24 → ∀ σ : zSt, zOnly (zKq z 70 310) σ0 σ → (∀ t, t < k → iTh σ0 σ z t) → zE true (d + 2) kc ks M_X12_keep 134 [some (.inr (.inr (54, 0))), none, some (.inl (nI z)), some (.inl (nI k)), none, none] [] σ Q := by
  intro n
  induction n with
  | zero =>
    intro k hk σ ho h
    have : k = 24 := by omega
    subst this
    exact T_X12_keep_134 ⟨fun _ => hnext σ ho h, fun h => absurd (show (24 : Int32) ≤ nI 24 by decide) h⟩
  | succ n ih =>
    intro k hk σ ho h
    have i24 : vp_in (nI k) 24 := nI_in (by omega) (by omega)
    refine T_X12_keep_134 ⟨fun g => ?_, fun _ => ?_⟩
    · rw [show (24 : Int32) = nI 24 from rfl, nI_leI (by omega) (by omega)] at g
      omega
    · rw [nI_ad (x := 70) (n := 70) rfl, nI_mu (x := 10) (n := 10) rfl, nI_add, nI_ad (x := 1) (n := 1) rfl, nI_clamp (show k < 2 ^ 31 by omega), nI_clamp (show z + 70 + 10 * k < 2 ^ 31 by omega), nI_clamp (show z + 70 + 10 * k + 1 < 2 ^ 31 by omega)]
      have o1 : zOnly (zKq z (70 + 10 * k) (70 + 10 * k + 10)) σ (zsi (zsi σ 92 0 (z + 70 + 10 * k) (zgi σ 56 0 k)) 92 0 (z + 70 + 10 * k + 1) (zgi σ 57 0 k)) := (zOnly.si (by unfold zKq; omega)).tr (zOnly.si (by unfold zKq; omega))
      refine ⟨i24, nI_in (by omega) (by omega), i24, nI_in (by omega) (by omega), L_X12_keep182 hz (by omega) (σ0 := σ) (fun σ' o2 i2 => ih (k + 1) (by omega) σ' (ho.tr (o2.mono (fun c j e q => by unfold zKq at q ⊢; omega))) (fun t ht => ?_)) 4 0 rfl _ o1 ?_ ?_ (fun i hi => absurd hi (Nat.not_lt_zero i))⟩
      · by_cases e : t = k
        · subst e
          have q : ∀ c x, c ≠ 92 → zgi σ c 0 x = zgi σ0 c 0 x := fun c x hc => ho.i c 0 x (by unfold zKq; omega)
          unfold iTh at i2 ⊢
          rw [q 56 _ (by omega), q 57 _ (by omega), q 59 _ (by omega), q 60 _ (by omega), q 61 _ (by omega), q 62 _ (by omega)] at i2
          obtain ⟨p1, p2, p3, p4⟩ := i2
          exact ⟨p1, p2, fun i hi => by rw [p3 i hi]; exact q 58 _ (by omega), p4⟩
        · exact (h t (by omega)).of (fun x h1 h2 => o2.i 92 0 x (by unfold zKq; omega))
      · simp [zgi_si]
      · simp [zgi_si]
theorem L_X12_keep100 {z : Nat} (hz : z + 800 ≤ 1600) {σ0 : zSt} (hnext : ∀ σ', zOnly (zKq z 6 70) σ0 σ' → (∀ c, c < 64 → zgi σ' 92 0 (z + 6 + c) = zb (¬ zgi σ0 55 0 c = 0)) → zE true (d + 2) kc ks M_X12_keep 134 [some (.inr (.inr (54, 0))), none, some (.inl (nI z)), some (.inl (0)), none, none] [] (σ') Q) : ∀ (n k : Nat), k + n = 64 → ∀ σ : zSt, zOnly (zKq z 6 70) σ0 σ → (∀ c, c < k → zgi σ 92 0 (z + 6 + c) = zb (¬ zgi σ0 55 0 c = 0)) → zE true (d + 2) kc ks M_X12_keep 100 [some (.inr (.inr (54, 0))), none, some (.inl (nI z)), some (.inl (nI k)), none, none] [] σ Q := by
  intro n
  induction n with
  | zero =>
    intro k hk σ ho h
    have : k = 64 := by omega
    subst this
    exact T_X12_keep_100 ⟨fun _ => hnext σ ho h, fun h => absurd (show (64 : Int32) ≤ nI 64 by decide) h⟩
  | succ n ih =>
    intro k hk σ ho h
    refine T_X12_keep_100 ⟨fun g => ?_, fun _ => ?_⟩
    · rw [show (64 : Int32) = nI 64 from rfl, nI_leI (by omega) (by omega)] at g
      omega
    · rw [nI_ad (x := 6) (n := 6) rfl, nI_add, nI_clamp (show k < 2 ^ 31 by omega), nI_clamp (show z + 6 + k < 2 ^ 31 by omega), ← nI_succ]
      refine ⟨nI_in (by omega) (by omega), nI_in (by omega) (by omega), ih (k + 1) (by omega) _ (ho.tr (zOnly.si (by unfold zKq; omega))) (fun c hc => ?_)⟩
      rw [zgi_si]
      by_cases e : c = k
      · subst e
        rw [if_pos ⟨rfl, rfl, rfl⟩, ho.i 55 0 c (by unfold zKq; omega)]
      · rw [if_neg (by omega)]
        exact h c (by omega)
theorem zb_zb {p : Prop} [Decidable p] : zb (¬ zb p = 0) = zb p := zb_iff (by rw [zb_0, Decidable.not_not])
theorem O_X12_keep {I : Nat → Bool × zAb} {K : Int32 → zSt → Prop} (hW : zWf A) (hR : zRM A σ) (hI : zRi I σ) (hIW : ∀ k, k < 2 → (I k).1 = true → zWf (I k).2) (a : Int32) (hno : ¬ (a = 0 ∨ a = 1) → K (-1) σ) (hyes : ∀ k, k < 2 → a = nI k → ∀ σ', zRi (iSet I k A) σ' → zOnly (fun c _ _ => c = 91 ∨ c = 92) σ σ' → K 1 σ') : zCi true (d + 2) 0 0 M_X12_keep [.inr (.inr (54, 0)), .inl (a)] σ K := by
  have hN : aN A ≤ 24 := hW.1.2.2.2.2.1
  have hM : aM A ≤ 60 := hW.1.2.2.2.2.2.1
  have hV : aV A ≤ 3 := hW.1.2.2.2.2.2.2
  refine zC_intro pl_X12 (Nat.le_of_ble_eq_true rfl) (T_X12_keep_0 ⟨fun h => ?_, fun h => ⟨_, rfl, hno ?_⟩⟩)
  · rw [zb_0, Decidable.not_not, i01] at h
    obtain ⟨k, hk, rfl⟩ : ∃ k, k < 2 ∧ a = nI k := by
      rcases h with rfl | rfl
      · exact ⟨0, by omega, rfl⟩
      · exact ⟨1, by omega, rfl⟩
    have cl : ∀ j, j < 10 → (nI (800 * k + j)).toNatClampNeg = 800 * k + j := fun j hj => nI_clamp (by omega)
    have vi : ∀ j, j < 10 → vp_in (nI (800 * k + j)) 1600 := fun j hj => nI_in (by omega) (by omega)
    have c0 := cl 0 (by omega)
    have v0 := vi 0 (by omega)
    rw [Nat.add_zero] at c0 v0
    rw [nI_mu (x := 800) (n := 800) rfl, nI_ad (x := 1) (n := 1) rfl, nI_ad (x := 2) (n := 2) rfl, nI_ad (x := 3) (n := 3) rfl, nI_ad (x := 4) (n := 4) rfl, nI_ad (x := 5) (n := 5) rfl, nI_clamp (show k < 2 ^ 31 by omega), c0, cl 1 (by omega), cl 2 (by omega), cl 3 (by omega), cl 4 (by omega), cl 5 (by omega)]
    refine ⟨nI_in (by omega) (by omega), v0, vi 1 (by omega), vi 2 (by omega), vi 3 (by omega), vi 4 (by omega), vi 5 (by omega), ?_⟩
    have o0 : zOnly (fun c j e => (c = 91 ∧ e = k) ∨ zKq (800 * k) 0 6 c j e) σ (zsi (zsi (zsi (zsi (zsi (zsi (zsi σ 91 0 k 1) 92 0 (800 * k) (zgi σ 54 0 1)) 92 0 (800 * k + 1) (zgi σ 54 0 2)) 92 0 (800 * k + 2) (zgi σ 54 0 4)) 92 0 (800 * k + 3) (zgi σ 54 0 12)) 92 0 (800 * k + 4) (zgi σ 54 0 19)) 92 0 (800 * k + 5) (zb (¬ zgi σ 54 0 23 = 0))) := ((((((zOnly.si (Or.inl ⟨rfl, rfl⟩)).tr (zOnly.si (by unfold zKq; omega))).tr (zOnly.si (by unfold zKq; omega))).tr (zOnly.si (by unfold zKq; omega))).tr (zOnly.si (by unfold zKq; omega))).tr (zOnly.si (by unfold zKq; omega))).tr (zOnly.si (by unfold zKq; omega))
    refine L_X12_keep100 (by omega) (σ0 := _) (fun σ1 o1 h1 => L_X12_keep134 (by omega) (σ0 := σ1) (fun σ2 o2 h2 => L_X12_keep292 (by omega) (σ0 := σ2) (fun σ3 o3 h3 => L_X12_keep409 (by omega) (σ0 := σ3) (fun σ4 o4 h4 => ⟨_, rfl, ?_⟩) 3 0 rfl σ3 zOnly.rf (fun v hv => absurd hv (Nat.not_lt_zero v))) 60 0 rfl σ2 zOnly.rf (fun v hv => absurd hv (Nat.not_lt_zero v))) 24 0 rfl σ1 zOnly.rf (fun v hv => absurd hv (Nat.not_lt_zero v))) 64 0 rfl _ zOnly.rf (fun v hv => absurd hv (Nat.not_lt_zero v))
    have q0 : ∀ c x, c ≠ 92 → c ≠ 91 → zgi σ1 c 0 x = zgi σ c 0 x := fun c x hc hc2 => by rw [o1.i c 0 x (by unfold zKq; omega), o0.i c 0 x (by unfold zKq; omega)]
    have q1 : ∀ c x, c ≠ 92 → c ≠ 91 → zgi σ2 c 0 x = zgi σ c 0 x := fun c x hc hc2 => by rw [o2.i c 0 x (by unfold zKq; omega), q0 c x hc hc2]
    have q2 : ∀ c x, c ≠ 92 → c ≠ 91 → zgi σ3 c 0 x = zgi σ c 0 x := fun c x hc hc2 => by rw [o3.i c 0 x (by unfold zKq; omega), q1 c x hc hc2]
    have p1 : ∀ x, x < 800 * k + 70 → zgi σ4 92 0 x = zgi σ1 92 0 x := fun x hx => by rw [o4.i 92 0 x (by unfold zKq; omega), o3.i 92 0 x (by unfold zKq; omega), o2.i 92 0 x (by unfold zKq; omega)]
    have p2 : ∀ x, x < 800 * k + 310 → zgi σ4 92 0 x = zgi σ2 92 0 x := fun x hx => by rw [o4.i 92 0 x (by unfold zKq; omega), o3.i 92 0 x (by unfold zKq; omega)]
    have p3 : ∀ x, x < 800 * k + 670 → zgi σ4 92 0 x = zgi σ3 92 0 x := fun x hx => o4.i 92 0 x (by unfold zKq; omega)
    have oo : zOnly (fun c j e => (c = 91 ∧ e = k) ∨ zKq (800 * k) 0 800 c j e) σ σ4 := ((((o0.mono (fun c j e h => h.imp id (fun h => by unfold zKq at h ⊢; omega))).tr (o1.mono (fun c j e h => Or.inr (by unfold zKq at h ⊢; omega)))).tr (o2.mono (fun c j e h => Or.inr (by unfold zKq at h ⊢; omega)))).tr (o3.mono (fun c j e h => Or.inr (by unfold zKq at h ⊢; omega)))).tr (o4.mono (fun c j e h => Or.inr (by unfold zKq at h ⊢; omega)))
    refine hyes k hk rfl σ4 (fun i hi => ?_) (oo.mono (fun c j e h => by unfold zKq at h; omega))
    unfold iSet
    by_cases e : i = k
    · subst e
      simp only [if_true]
      refine ⟨?_, fun _ => ?_⟩
      · rw [o4.i 91 0 i (by unfold zKq; omega), o3.i 91 0 i (by unfold zKq; omega), o2.i 91 0 i (by unfold zKq; omega), o1.i 91 0 i (by unfold zKq; omega)]
        simp [zgi_si]
        rfl
      · obtain ⟨⟨a1, a2, a3, a4, a5, a6, a7⟩, g2, g3, g4⟩ := hR
        have p0 : ∀ x, x < 800 * i + 6 → zgi σ4 92 0 x = zgi _ 92 0 x := fun x hx => (p1 x (by omega)).trans (o1.i 92 0 x (by unfold zKq; omega))
        refine ⟨⟨?_, ?_, ?_, ?_, ?_, ?_, fun c hc => ?_⟩, fun t ht => ?_, fun m hm => ?_, fun v hv => ?_⟩
        · rw [p0 _ (by omega)]; simp [zgi_si]; exact a1
        · rw [p0 _ (by omega)]; simp [zgi_si]; exact a2
        · rw [p0 _ (by omega)]; simp [zgi_si]; exact a3
        · rw [p0 _ (by omega)]; simp [zgi_si]; exact a4
        · rw [p0 _ (by omega)]; simp [zgi_si]; exact a5
        · rw [p0 _ (by omega), zgi_si, if_pos ⟨rfl, rfl, rfl⟩, a6, zb_zb]
        · rw [p1 _ (by omega), h1 c hc]
          have : zgi (zsi (zsi (zsi (zsi (zsi (zsi (zsi σ 91 0 i 1) 92 0 (800 * i) (zgi σ 54 0 1)) 92 0 (800 * i + 1) (zgi σ 54 0 2)) 92 0 (800 * i + 2) (zgi σ 54 0 4)) 92 0 (800 * i + 3) (zgi σ 54 0 12)) 92 0 (800 * i + 4) (zgi σ 54 0 19)) 92 0 (800 * i + 5) (zb (¬ zgi σ 54 0 23 = 0))) 55 0 c = zgi σ 55 0 c := o0.i 55 0 c (by unfold zKq; omega)
          rw [this, a7 c hc, zb_zb]
        · obtain ⟨t1, t2, t3, t4, t5, t6, t7⟩ := (h2 t (by omega)).of (σ' := σ4) (fun x _ hx => p2 x (by omega))
          obtain ⟨r1, r2, r3, r4, r5, r6, r7, r8, r9, r10⟩ := g2 t ht
          rw [q0 56 _ (by omega) (by omega), r1] at t1
          rw [q0 57 _ (by omega) (by omega), r2] at t2
          rw [q0 59 _ (by omega) (by omega), r7, zb_zb] at t4
          rw [q0 60 _ (by omega) (by omega), r8] at t5
          rw [q0 61 _ (by omega) (by omega), r9] at t6
          rw [q0 62 _ (by omega) (by omega), r10] at t7
          have b0 := t3 0 (by omega)
          have b1 := t3 1 (by omega)
          have b2 := t3 2 (by omega)
          have b3 := t3 3 (by omega)
          simp only [Nat.add_zero] at b0
          rw [q0 58 _ (by omega) (by omega), r3] at b0
          rw [q0 58 _ (by omega) (by omega), r4] at b1
          rw [q0 58 _ (by omega) (by omega), r5] at b2
          rw [q0 58 _ (by omega) (by omega), r6] at b3
          exact ⟨t1, t2, b0, b1, b2, b3, t4, t5, t6, t7⟩
        · obtain ⟨t1, t2, t3, t4, t5, t6⟩ := (h3 m (by omega)).of (σ' := σ4) (fun x _ hx => p3 x (by omega))
          obtain ⟨r1, r2, r3, r4, r5, r6⟩ := g3 m hm
          rw [q1 63 _ (by omega) (by omega), r1] at t1
          rw [q1 64 _ (by omega) (by omega), r2] at t2
          rw [q1 65 _ (by omega) (by omega), r3] at t3
          rw [q1 66 _ (by omega) (by omega), r4] at t4
          rw [q1 67 _ (by omega) (by omega), r5] at t5
          rw [q1 68 _ (by omega) (by omega), r6, zb_zb] at t6
          exact ⟨t1, t2, t3, t4, t5, t6⟩
        · obtain ⟨t1, t2, t3⟩ := h4 v (by omega)
          obtain ⟨r1, r2, r3⟩ := g4 v hv
          rw [q2 69 _ (by omega) (by omega), r1] at t1
          rw [q2 70 _ (by omega) (by omega), r2] at t2
          rw [q2 71 _ (by omega) (by omega), r3] at t3
          exact ⟨t1, t2, t3⟩
    · simp only [if_neg e]
      obtain ⟨s1, s2⟩ := hI i hi
      rw [oo.i 91 0 i (by unfold zKq; omega)]
      exact ⟨s1, fun h => (s2 h).of (hIW i hi h) (fun x h1 h2 => oo.i 92 0 x (by unfold zKq; omega))⟩
  · rw [zb_0, i01] at h
    exact h
end zMk
