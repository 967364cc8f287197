/-! THE DESK as numbers: A.1 counts (0 width, 1 height, 2 things, 3 measures, 4 movers); A.2.1 naturals (0 kind, 1 .. 4 box, 5 .. 9 measures' kind, a, b, p, q, 10 .. 12 movers' first, ticks, reach); A.2.2.1 integers (0 cell, 1 mover, 2 tick, 3 map); A.2.2.2 bits (0 wall, 1 trusted, 2 on, 3 alone) -/
abbrev zAb : Type := (Nat → Nat) × (Nat → Nat → Nat) × (Nat → Nat → Int) × (Nat → Nat → Bool)
def aW (A : zAb) : Nat := A.1 0
def aH (A : zAb) : Nat := A.1 1
def aN (A : zAb) : Nat := A.1 2
def aM (A : zAb) : Nat := A.1 3
def aV (A : zAb) : Nat := A.1 4
def aK (A : zAb) (t : Nat) : Nat := A.2.1 0 t
def aX1 (A : zAb) (t : Nat) : Nat := A.2.1 1 t
def aY1 (A : zAb) (t : Nat) : Nat := A.2.1 2 t
def aX2 (A : zAb) (t : Nat) : Nat := A.2.1 3 t
def aY2 (A : zAb) (t : Nat) : Nat := A.2.1 4 t
def mK (A : zAb) (m : Nat) : Nat := A.2.1 5 m
def mA (A : zAb) (m : Nat) : Nat := A.2.1 6 m
def mB (A : zAb) (m : Nat) : Nat := A.2.1 7 m
def mP (A : zAb) (m : Nat) : Nat := A.2.1 8 m
def mQ (A : zAb) (m : Nat) : Nat := A.2.1 9 m
def vF (A : zAb) (v : Nat) : Nat := A.2.1 10 v
def vT (A : zAb) (v : Nat) : Nat := A.2.1 11 v
def vR (A : zAb) (v : Nat) : Nat := A.2.1 12 v
def aC (A : zAb) (t : Nat) : Int := A.2.2.1 0 t
def aMo (A : zAb) (t : Nat) : Int := A.2.2.1 1 t
def aTi (A : zAb) (t : Nat) : Int := A.2.2.1 2 t
def aMp (A : zAb) (t : Nat) : Int := A.2.2.1 3 t
def aWl (A : zAb) (c : Nat) : Bool := A.2.2.2 0 c
def aTr (A : zAb) (t : Nat) : Bool := A.2.2.2 1 t
def mO (A : zAb) (m : Nat) : Bool := A.2.2.2 2 m
def aAl (A : zAb) : Bool := A.2.2.2 3 0
def as0 (A : zAb) (k v : Nat) : zAb := (fun i => if i = k then v else A.1 i, A.2)
def as1 (A : zAb) (a k v : Nat) : zAb := (A.1, fun b i => if b = a ∧ i = k then v else A.2.1 b i, A.2.2)
def as2 (A : zAb) (a k : Nat) (v : Int) : zAb := (A.1, A.2.1, fun b i => if b = a ∧ i = k then v else A.2.2.1 b i, A.2.2.2)
def as3 (A : zAb) (a k : Nat) (v : Bool) : zAb := (A.1, A.2.1, A.2.2.1, fun b i => if b = a ∧ i = k then v else A.2.2.2 b i)
def iI (z : Int) : Int32 := Int32.ofInt z
def acell (A : zAb) (c : Nat) : Bool := decide (c < 64) && decide (c % 8 < aW A) && decide (c / 8 < aH A)
def afree (A : zAb) (c : Nat) : Bool := acell A c && !aWl A c
def abox (A : zAb) (t c : Nat) : Bool := decide (aX1 A t ≤ c % 8) && decide (c % 8 ≤ aX2 A t) && decide (aY1 A t ≤ c / 8) && decide (c / 8 ≤ aY2 A t)
def atold (A : zAb) (t c : Nat) : Bool := if aK A t > 0 then decide ((c : Int) = aC A t) else afree A c && abox A t c
/-- the desk is in order -/
def zWf (A : zAb) : Prop := (1 ≤ aW A ∧ aW A ≤ 8 ∧ 1 ≤ aH A ∧ aH A ≤ 8 ∧ aN A ≤ 24 ∧ aM A ≤ 60 ∧ aV A ≤ 3) ∧
  (∀ t, t < aN A → aK A t ≤ 2 ∧ (0 < aK A t → ∃ c : Nat, aC A t = (c : Int) ∧ afree A c = true) ∧ (aK A t = 0 → aC A t = -9) ∧ aX1 A t ≤ aX2 A t ∧ aX2 A t ≤ 7 ∧ aY1 A t ≤ aY2 A t ∧ aY2 A t ≤ 7 ∧ (aMp A t = -9 ∨ ∃ c : Nat, aMp A t = (c : Int) ∧ acell A c = true) ∧ (aMo A t = -9 ∨ 0 ≤ aMo A t ∧ aMo A t < 3) ∧ (aTi A t = -9 ∨ 0 ≤ aTi A t ∧ aTi A t < 8)) ∧
  (∀ m, m < aM A → mK A m ≤ 4 ∧ mA A m < aN A ∧ mB A m < aN A ∧ mA A m ≠ mB A m ∧ mP A m ≤ 98 ∧ mQ A m ≤ 98 ∧ (mK A m = 3 → mP A m ≤ 3) ∧ (mK A m = 4 → mP A m ≤ 20)) ∧
  (∀ v, v < aV A → 2 ≤ vT A v ∧ vT A v ≤ 8 ∧ vF A v + vT A v ≤ aN A ∧ vR A v ≤ 98)
/-- the reference holds the desk -/
def zRM (A : zAb) (σ : zSt) : Prop := (zgi σ 54 0 1 = nI (aW A) ∧ zgi σ 54 0 2 = nI (aH A) ∧ zgi σ 54 0 4 = nI (aN A) ∧ zgi σ 54 0 12 = nI (aM A) ∧ zgi σ 54 0 19 = nI (aV A) ∧ zgi σ 54 0 23 = zb (aAl A = true) ∧ ∀ c, c < 64 → zgi σ 55 0 c = zb (aWl A c = true)) ∧
  (∀ t, t < aN A → zgi σ 56 0 t = nI (aK A t) ∧ zgi σ 57 0 t = iI (aC A t) ∧ zgi σ 58 0 (4 * t) = nI (aX1 A t) ∧ zgi σ 58 0 (4 * t + 1) = nI (aY1 A t) ∧ zgi σ 58 0 (4 * t + 2) = nI (aX2 A t) ∧ zgi σ 58 0 (4 * t + 3) = nI (aY2 A t) ∧ zgi σ 59 0 t = zb (aTr A t = true) ∧ zgi σ 60 0 t = iI (aMo A t) ∧ zgi σ 61 0 t = iI (aTi A t) ∧ zgi σ 62 0 t = iI (aMp A t)) ∧
  (∀ m, m < aM A → zgi σ 63 0 m = nI (mK A m) ∧ zgi σ 64 0 m = nI (mA A m) ∧ zgi σ 65 0 m = nI (mB A m) ∧ zgi σ 66 0 m = nI (mP A m) ∧ zgi σ 67 0 m = nI (mQ A m) ∧ zgi σ 68 0 m = zb (mO A m = true)) ∧
  (∀ v, v < aV A → zgi σ 69 0 v = nI (vF A v) ∧ zgi σ 70 0 v = nI (vT A v) ∧ zgi σ 71 0 v = nI (vR A v))
/-- a change of some places alone: of component c, row j, place k -/
def zOnly (m : Nat → Nat → Nat → Prop) (σ σ' : zSt) : Prop := ∀ c j k, ¬ m c j k → zgi σ' c j k = zgi σ c j k ∧ zgl σ' c j k = zgl σ c j k ∧ zgr σ' c j k = zgr σ c j k
theorem zOnly.rf {m : Nat → Nat → Nat → Prop} {σ : zSt} : zOnly m σ σ := fun _ _ _ _ => ⟨rfl, rfl, rfl⟩
theorem zOnly.tr {m : Nat → Nat → Nat → Prop} {a b c : zSt} (h1 : zOnly m a b) (h2 : zOnly m b c) : zOnly m a c := fun x j k h => ⟨(h2 x j k h).1.trans (h1 x j k h).1, (h2 x j k h).2.1.trans (h1 x j k h).2.1, (h2 x j k h).2.2.trans (h1 x j k h).2.2⟩
theorem zOnly.mono {m m' : Nat → Nat → Nat → Prop} {a b : zSt} (h : zOnly m a b) (hm : ∀ c j k, m c j k → m' c j k) : zOnly m' a b := fun x j k hn => h x j k (fun q => hn (hm x j k q))
theorem zOnly.i {m : Nat → Nat → Nat → Prop} {σ σ' : zSt} (h : zOnly m σ σ') (c j k : Nat) (hn : ¬ m c j k) : zgi σ' c j k = zgi σ c j k := (h c j k hn).1
theorem zOnly.l {m : Nat → Nat → Nat → Prop} {σ σ' : zSt} (h : zOnly m σ σ') (c j k : Nat) (hn : ¬ m c j k) : zgl σ' c j k = zgl σ c j k := (h c j k hn).2.1
theorem zOnly.r {m : Nat → Nat → Nat → Prop} {σ σ' : zSt} (h : zOnly m σ σ') (c j k : Nat) (hn : ¬ m c j k) : zgr σ' c j k = zgr σ c j k := (h c j k hn).2.2
theorem zOnly.si {m : Nat → Nat → Nat → Prop} {σ : zSt} {c j k : Nat} {x : Int32} (h : m c j k) : zOnly m σ (zsi σ c j k x) := fun a b e hn => ⟨by rw [zgi_si, if_neg (fun q => hn (by rw [q.1, q.2.1, q.2.2]; exact h))], rfl, rfl⟩
theorem zOnly.sl {m : Nat → Nat → Nat → Prop} {σ : zSt} {c j k : Nat} {x : Int64} (h : m c j k) : zOnly m σ (zsl σ c j k x) := fun a b e hn => ⟨rfl, by rw [zgl_sl, if_neg (fun q => hn (by rw [q.1, q.2.1, q.2.2]; exact h))], rfl⟩
theorem zOnly.sr {m : Nat → Nat → Nat → Prop} {σ : zSt} {c j k : Nat} {x : Nat × Nat} (h : m c j k) : zOnly m σ (zsr σ c j k x) := fun a b e hn => ⟨rfl, rfl, by rw [zgr_sr, if_neg (fun q => hn (by rw [q.1, q.2.1, q.2.2]; exact h))]⟩
/-- the places in which the reference holds the desk -/
def zBM (c k : Nat) : Prop := (c = 54 ∧ (k = 1 ∨ k = 2 ∨ k = 4 ∨ k = 12 ∨ k = 19 ∨ k = 23)) ∨ (55 ≤ c ∧ c ≤ 71)
theorem zRM.of {A : zAb} {σ σ' : zSt} (h : zRM A σ) (he : ∀ c k, zBM c k → zgi σ' c 0 k = zgi σ c 0 k) : zRM A σ' := by
  obtain ⟨⟨a1, a2, a3, a4, a5, a6, a7⟩, h2, h3, h4⟩ := h
  refine ⟨⟨?_, ?_, ?_, ?_, ?_, ?_, fun c hc => ?_⟩, fun t ht => ?_, fun m hm => ?_, fun v hv => ?_⟩
  · rw [he 54 1 (by unfold zBM; omega)]; exact a1
  · rw [he 54 2 (by unfold zBM; omega)]; exact a2
  · rw [he 54 4 (by unfold zBM; omega)]; exact a3
  · rw [he 54 12 (by unfold zBM; omega)]; exact a4
  · rw [he 54 19 (by unfold zBM; omega)]; exact a5
  · rw [he 54 23 (by unfold zBM; omega)]; exact a6
  · rw [he 55 c (by unfold zBM; omega)]; exact a7 c hc
  · obtain ⟨b1, b2, b3, b4, b5, b6, b7, b8, b9, b10⟩ := h2 t ht
    rw [he 56 _ (by unfold zBM; omega), he 57 _ (by unfold zBM; omega), he 58 _ (by unfold zBM; omega), he 58 _ (by unfold zBM; omega), he 58 _ (by unfold zBM; omega), he 58 _ (by unfold zBM; omega), he 59 _ (by unfold zBM; omega), he 60 _ (by unfold zBM; omega), he 61 _ (by unfold zBM; omega), he 62 _ (by unfold zBM; omega)]
    exact ⟨b1, b2, b3, b4, b5, b6, b7, b8, b9, b10⟩
  · obtain ⟨b1, b2, b3, b4, b5, b6⟩ := h3 m hm
    rw [he 63 _ (by unfold zBM; omega), he 64 _ (by unfold zBM; omega), he 65 _ (by unfold zBM; omega), he 66 _ (by unfold zBM; omega), he 67 _ (by unfold zBM; omega), he 68 _ (by unfold zBM; omega)]
    exact ⟨b1, b2, b3, b4, b5, b6⟩
  · obtain ⟨b1, b2, b3⟩ := h4 v hv
    rw [he 69 _ (by unfold zBM; omega), he 70 _ (by unfold zBM; omega), he 71 _ (by unfold zBM; omega)]
    exact ⟨b1, b2, b3⟩
theorem zRM.only {A : zAb} {m : Nat → Nat → Nat → Prop} {σ σ' : zSt} (h : zRM A σ) (ho : zOnly m σ σ') (hm : ∀ c k, zBM c k → ¬ m c 0 k) : zRM A σ' := h.of (fun c k hb => ho.i c 0 k (hm c k hb))
-- numbers
theorem nI_mul (a b : Nat) : nI a * nI b = nI (a * b) := (Int32.ofNat_mul a b).symm
theorem nI_eqI {a b : Nat} (ha : a < 2 ^ 31) (hb : b < 2 ^ 31) : nI a = nI b ↔ a = b := by
  rw [← Int32.toInt_inj, nI_toInt ha, nI_toInt hb]; omega
theorem i32_nI {x : Int32} (h0 : 0 ≤ x) : ∃ n : Nat, n < 2 ^ 31 ∧ x = nI n := by
  refine ⟨x.toInt.toNat, ?_, ?_⟩
  · have := fb_rng x; omega
  · rw [Int32.le_iff_toInt_le, Int32.toInt_zero] at h0
    rw [← Int32.toInt_inj, nI_toInt (by have := fb_rng x; omega)]
    omega
theorem i32_rng {x : Int32} {n : Nat} (h0 : 0 ≤ x) (h1 : x ≤ nI n) (hn : n < 2 ^ 31) : ∃ k : Nat, k ≤ n ∧ x = nI k := by
  obtain ⟨k, hk, rfl⟩ := i32_nI h0
  exact ⟨k, (nI_leI hk hn).mp h1, rfl⟩
theorem iI_toInt {z : Int} (h1 : -2147483648 ≤ z) (h2 : z < 2147483648) : (iI z).toInt = z := fb_ofI h1 h2
theorem iI_nat (n : Nat) : iI (n : Int) = nI n := rfl
theorem in_fa (a b : Int32) : (a.toInt64 ≤ b.toInt64) ↔ a ≤ b := fa_wide_le a b
