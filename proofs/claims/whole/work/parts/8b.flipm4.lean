/-! flips (reference): all of them, in their order -/
abbrev zFl4 := Nat × Int × (Nat → Bool) × Nat
def flK (A : zAb) (p : Nat → Bool) (j : Nat) (b : Int) : Nat → Nat → List zFl4
  | 0, _ => []
  | r + 1, k => (if 0 < mvN A p j b k then [(j, b, p, k)] else []) ++ flK A p j b r (k + 1)
noncomputable def flS (A : zAb) (g j : Nat) (b : Int) : Nat → Nat → (Nat → Bool) → List zFl4
  | 0, _, _ => []
  | r + 1, t, w => if w t = true then (if hgB A (ptB A (rsB A g j b) t) j b = true then flK A (ptB A (rsB A g j b) t) j b 7 1 else []) ++ flS A g j b r (t + 1) (fun u => w u && !ptB A (rsB A g j b) t u) else flS A g j b r (t + 1) w
noncomputable def mbJ (A : zAb) (g t : Nat) : Bool := decide (0 ≤ aMp A t) && (grB A g t || decide (0 < aK A t))
noncomputable def fl1 (A : zAb) (g : Nat) : Nat → Nat → List zFl4
  | 0, _ => []
  | r + 1, j => (if mbJ A g j = true then flS A g j (-1) (aN A) 0 (rsB A g j (-1)) else []) ++ fl1 A g r (j + 1)
noncomputable def fl2 (A : zAb) (g j : Nat) : Nat → Nat → List zFl4
  | 0, _ => []
  | r + 1, b => (if mbJ A g j = true ∧ mbJ A g b = true then flS A g j (b : Int) (aN A) 0 (rsB A g j (b : Int)) else []) ++ fl2 A g j r (b + 1)
noncomputable def fl3 (A : zAb) (g : Nat) : Nat → Nat → List zFl4
  | 0, _ => []
  | r + 1, j => fl2 A g j r (j + 1) ++ fl3 A g r (j + 1)
/-- the flips of a thing's group -/
noncomputable def flP (A : zAb) (g : Nat) : List zFl4 := fl1 A g (aN A) 0 ++ fl3 A g (aN A) 0
noncomputable def plcd (A : zAb) (t : Nat) : Bool := !aAny (fun u => grB A t u && !decide (0 ≤ aMp A u)) (aN A)
theorem flK_len {A : zAb} {p : Nat → Bool} {j : Nat} {b : Int} : ∀ r k : Nat, (flK A p j b r k).length ≤ r
  | 0, _ => Nat.le_refl _
  | r + 1, k => by
    have := flK_len (A := A) (p := p) (j := j) (b := b) r (k + 1)
    unfold flK
    rw [List.length_append]
    split
    · rw [List.length_singleton]; omega
    · rw [List.length_nil]; omega
theorem flS_len {A : zAb} {g j : Nat} {b : Int} : ∀ (r t : Nat) (w : Nat → Bool), (flS A g j b r t w).length ≤ 7 * r
  | 0, _, _ => Nat.le_refl _
  | r + 1, t, w => by
    unfold flS
    split
    · have := flS_len (A := A) (g := g) (j := j) (b := b) r (t + 1) (fun u => w u && !ptB A (rsB A g j b) t u)
      have h2 := flK_len (A := A) (p := ptB A (rsB A g j b) t) (j := j) (b := b) 7 1
      rw [List.length_append]
      split
      · omega
      · rw [List.length_nil]; omega
    · have := flS_len (A := A) (g := g) (j := j) (b := b) r (t + 1) w
      omega
theorem fl1_len {A : zAb} {g : Nat} (hN : aN A ≤ 24) : ∀ r j : Nat, (fl1 A g r j).length ≤ 168 * r
  | 0, _ => Nat.le_refl _
  | r + 1, j => by
    have := fl1_len (g := g) hN r (j + 1)
    have h2 := flS_len (A := A) (g := g) (j := j) (b := -1) (aN A) 0 (rsB A g j (-1))
    unfold fl1
    rw [List.length_append]
    split
    · omega
    · rw [List.length_nil]; omega
theorem fl2_len {A : zAb} {g j : Nat} (hN : aN A ≤ 24) : ∀ r b : Nat, (fl2 A g j r b).length ≤ 168 * r
  | 0, _ => Nat.le_refl _
  | r + 1, b => by
    have := fl2_len (g := g) (j := j) hN r (b + 1)
    have h2 := flS_len (A := A) (g := g) (j := j) (b := (b : Int)) (aN A) 0 (rsB A g j (b : Int))
    unfold fl2
    rw [List.length_append]
    split
    · omega
    · rw [List.length_nil]; omega
theorem fl3_len {A : zAb} {g : Nat} (hN : aN A ≤ 24) : ∀ r j : Nat, r ≤ 24 → (fl3 A g r j).length ≤ 4032 * r
  | 0, _, _ => Nat.le_refl _
  | r + 1, j, h => by
    have := fl3_len (g := g) hN r (j + 1) (by omega)
    have h2 := fl2_len (g := g) (j := j) hN r (j + 1)
    unfold fl3
    rw [List.length_append]
    omega
theorem flP_len {A : zAb} {g : Nat} (hN : aN A ≤ 24) : (flP A g).length ≤ 100800 := by
  have h1 := fl1_len (g := g) hN (aN A) 0
  have h2 := fl3_len (g := g) hN (aN A) 0 hN
  unfold flP
  rw [List.length_append]
  omega
theorem mvN_le {A : zAb} (hN : aN A ≤ 24) {p : Nat → Bool} {j k : Nat} {b : Int} : mvN A p j b k ≤ 24 := by
  unfold mvN
  split
  · have := fb_ct_le (fun t => p t && !decide (tnT A j k t = aMp A t)) (aN A)
    unfold mvC
    omega
  · omega
theorem pt_rs {A : zAb} {w : Nat → Bool} {t u : Nat} (ht : w t = true) (h : ptB A w t u = true) : w u = true := ptB_iff.mp h (fun x => w x = true) ht (fun x y _ ⟨m, _, _, h3, h4, h5⟩ => by
  rcases h5 with ⟨rfl, rfl⟩ | ⟨rfl, rfl⟩
  · exact h4
  · exact h3)
section zMaa
variable {d kc ks : Nat} {σ : zSt} {A : zAb} {Q : Option zV → zSt → Prop}
/-- the flip that is kept -/
def zKp (A : zAb) (σ : zSt) (x : zFl4) : Prop := zgi σ 54 0 60 = nI x.1 ∧ zgi σ 54 0 61 = iI (if 0 ≤ x.2.1 then x.2.1 else -9) ∧ zgi σ 54 0 62 = yset x.2.2.1 32 ∧ zgi σ 54 0 63 = nI x.2.2.2 ∧ zgi σ 54 0 64 = nI (mvN A x.2.2.1 x.1 x.2.1 x.2.2.2) ∧ ∀ t, t < aN A → x.2.2.1 t = true → zgi σ 88 0 t = iI (tnT A x.1 x.2.2.2 t)
/-- so many flips, and the wanted one of them -/
def zFk (A : zAb) (σ : zSt) (L : List zFl4) (w : Int32) : Prop := zgi σ 54 0 58 = nI L.length ∧ zgi σ 54 0 59 = w ∧ ∀ i x, L[i]? = some x → w = nI i → zKp A σ x
abbrev zKm (c _j k : Nat) : Prop := c = 88 ∨ (c = 54 ∧ 60 ≤ k ∧ k ≤ 64)
abbrev zQt (c _j k : Nat) : Prop := c = 87 ∨ c = 88 ∨ (c = 54 ∧ ((56 ≤ k ∧ k ≤ 58) ∨ (60 ≤ k ∧ k ≤ 64)))
theorem zKp.only {σ' : zSt} {x : zFl4} {M : Nat → Nat → Nat → Prop} (h : zKp A σ x) (ho : zOnly M σ σ') (hm : (∀ k, 60 ≤ k → k ≤ 64 → ¬ M 54 0 k) ∧ ∀ k, ¬ M 88 0 k) : zKp A σ' x := by
  obtain ⟨h1, h2, h3, h4, h5, h6⟩ := h
  refine ⟨?_, ?_, ?_, ?_, ?_, fun t ht hz => ?_⟩
  · rw [ho.i 54 0 60 (hm.1 60 (by omega) (by omega))]; exact h1
  · rw [ho.i 54 0 61 (hm.1 61 (by omega) (by omega))]; exact h2
  · rw [ho.i 54 0 62 (hm.1 62 (by omega) (by omega))]; exact h3
  · rw [ho.i 54 0 63 (hm.1 63 (by omega) (by omega))]; exact h4
  · rw [ho.i 54 0 64 (hm.1 64 (by omega) (by omega))]; exact h5
  · rw [ho.i 88 0 t (hm.2 t)]; exact h6 t ht hz
theorem zFk.only {σ' : zSt} {L : List zFl4} {w : Int32} {M : Nat → Nat → Nat → Prop} (h : zFk A σ L w) (ho : zOnly M σ σ') (hm : (∀ k, 58 ≤ k → k ≤ 64 → ¬ M 54 0 k) ∧ ∀ k, ¬ M 88 0 k) : zFk A σ' L w :=
  ⟨by rw [ho.i 54 0 58 (hm.1 58 (by omega) (by omega))]; exact h.1, by rw [ho.i 54 0 59 (hm.1 59 (by omega) (by omega))]; exact h.2.1, fun i x h1 h2 => (h.2.2 i x h1 h2).only ho ⟨fun k k1 k2 => hm.1 k (by omega) k2, hm.2⟩⟩
theorem L_X12_keep51 {σ0 : zSt} (hQ : ∀ σ', zOnly (fun c _ _ => c = 88) σ0 σ' → (∀ t, t < 24 → zgi σ' 88 0 t = zgi σ0 87 0 t) → Q none σ') : ∀ (n k : Nat), k + n = 24 → ∀ σ : zSt, zOnly (fun c _ _ => c = 88) σ0 σ → (∀ t, t < k → zgi σ 88 0 t = zgi σ0 87 0 t) → zE true (d + 1) kc ks M_X12_keepFlip 51 [some (.inr (.inr (54, 0))), none, some (.inl (nI k))] [] σ Q := by
  intro n
  induction n with
  | zero =>
    intro k hk σ ho h
    have : k = 24 := by omega
    subst this
    exact T_X12_keepFlip_51 ⟨fun _ => hQ σ ho h, fun g => absurd (show (24 : Int32) ≤ nI 24 by decide) g⟩
  | succ n ih =>
    intro k hk σ ho h
    have i24 : vp_in (nI k) 24 := nI_in (by omega) (by omega)
    refine T_X12_keepFlip_51 ⟨fun g => ?_, fun _ => ⟨i24, i24, ?_⟩⟩
    · rw [show (24 : Int32) = nI 24 from rfl, nI_leI (by omega) (by omega)] at g
      omega
    · rw [nI_clamp (show k < 2 ^ 31 by omega), ← nI_succ]
      refine ih (k + 1) (by omega) _ (ho.tr (zOnly.si rfl)) (fun t ht => ?_)
      rw [zgi_si]
      by_cases e : t = k
      · subst e
        rw [if_pos ⟨rfl, rfl, rfl⟩, ho.i 87 0 t (by omega)]
      · rw [if_neg (by omega)]
        exact h t (by omega)
theorem S_X12_keepFlip {K : zSt → Prop} (hW : zWf A) {p : Nat → Bool} {j k : Nat} {b : Int} (hP : zPt A σ p j b k) (h87 : ∀ t, t < aN A → p t = true → zgi σ 87 0 t = iI (tnT A j k t)) (hK : ∀ σ', zOnly zKm σ σ' → zKp A σ' (j, b, p, k) → K σ') : zCv true (d + 1) 0 0 M_X12_keepFlip [.inr (.inr (54, 0)), .inl (nI (mvN A p j b k))] σ K := by
  have hN : aN A ≤ 24 := hW.1.2.2.2.2.1
  obtain ⟨⟨f1, f2, f3, f4, f5, f6, f7⟩, h56, h57, hk, hp⟩ := hP
  refine zC_intro pl_X12 (Nat.le_of_ble_eq_true rfl) (T_X12_keepFlip_0 (fun x hx => ?_))
  have ex : x = iI (if 0 ≤ b then b else -9) := by
    have cb : (0 ≤ iI b) ↔ 0 ≤ b := iI_le (a := 0) (by omega) (by omega)
    rw [hx, f2]
    by_cases z : 0 ≤ b
    · rw [if_pos z, if_pos (cb.mpr z)]
    · rw [if_neg z, if_neg (fun q => z (cb.mp q))]; rfl
  have o1 : zOnly (fun c _ k => c = 54 ∧ 60 ≤ k ∧ k ≤ 64) σ (zsi (zsi (zsi (zsi (zsi σ 54 0 60 (zgi σ 54 0 54)) 54 0 61 x) 54 0 62 (zgi σ 54 0 56)) 54 0 63 (zgi σ 54 0 57)) 54 0 64 (nI (mvN A p j b k))) := ((((zOnly.si ⟨rfl, by omega, by omega⟩).tr (zOnly.si ⟨rfl, by omega, by omega⟩)).tr (zOnly.si ⟨rfl, by omega, by omega⟩)).tr (zOnly.si ⟨rfl, by omega, by omega⟩)).tr (zOnly.si ⟨rfl, by omega, by omega⟩)
  have q1 : zgi (zsi (zsi (zsi (zsi (zsi σ 54 0 60 (zgi σ 54 0 54)) 54 0 61 x) 54 0 62 (zgi σ 54 0 56)) 54 0 63 (zgi σ 54 0 57)) 54 0 64 (nI (mvN A p j b k))) 54 0 60 = nI j := by simp [zgi_si, f1]
  have q2 : zgi (zsi (zsi (zsi (zsi (zsi σ 54 0 60 (zgi σ 54 0 54)) 54 0 61 x) 54 0 62 (zgi σ 54 0 56)) 54 0 63 (zgi σ 54 0 57)) 54 0 64 (nI (mvN A p j b k))) 54 0 61 = x := by simp [zgi_si]
  have q3 : zgi (zsi (zsi (zsi (zsi (zsi σ 54 0 60 (zgi σ 54 0 54)) 54 0 61 x) 54 0 62 (zgi σ 54 0 56)) 54 0 63 (zgi σ 54 0 57)) 54 0 64 (nI (mvN A p j b k))) 54 0 62 = yset p 32 := by simp [zgi_si, h56]
  have q4 : zgi (zsi (zsi (zsi (zsi (zsi σ 54 0 60 (zgi σ 54 0 54)) 54 0 61 x) 54 0 62 (zgi σ 54 0 56)) 54 0 63 (zgi σ 54 0 57)) 54 0 64 (nI (mvN A p j b k))) 54 0 63 = nI k := by simp [zgi_si, h57]
  have q5 : zgi (zsi (zsi (zsi (zsi (zsi σ 54 0 60 (zgi σ 54 0 54)) 54 0 61 x) 54 0 62 (zgi σ 54 0 56)) 54 0 63 (zgi σ 54 0 57)) 54 0 64 (nI (mvN A p j b k))) 54 0 64 = nI (mvN A p j b k) := by simp [zgi_si]
  generalize zsi (zsi (zsi (zsi (zsi σ 54 0 60 (zgi σ 54 0 54)) 54 0 61 x) 54 0 62 (zgi σ 54 0 56)) 54 0 63 (zgi σ 54 0 57)) 54 0 64 (nI (mvN A p j b k)) = σ1 at o1 q1 q2 q3 q4 q5 ⊢
  refine L_X12_keep51 (Q := fun r σ' => r = none ∧ K σ') (σ0 := σ1) (fun σ' o2 h88 => ⟨rfl, hK σ' ((o1.mono (fun c j k h => Or.inr h)).tr (o2.mono (fun c j k h => Or.inl h))) ⟨?_, ?_, ?_, ?_, ?_, fun t ht hz => ?_⟩⟩) 24 0 (by omega) σ1 zOnly.rf (fun t ht => absurd ht (Nat.not_lt_zero t))
  · rw [o2.i 54 0 60 (by omega)]; exact q1
  · rw [o2.i 54 0 61 (by omega), q2]; exact ex
  · rw [o2.i 54 0 62 (by omega)]; exact q3
  · rw [o2.i 54 0 63 (by omega)]; exact q4
  · rw [o2.i 54 0 64 (by omega)]; exact q5
  · rw [h88 t (by omega), o1.i 87 0 t (by omega)]; exact h87 t ht hz
theorem S_X12_mayBeJoint {K : Int32 → zSt → Prop} (hW : zWf A) (hR : zRM A σ) {g t : Nat} (h53 : zgi σ 54 0 53 = yset (grB A g) 32) (ht : t < aN A) (hK : K (zb (mbJ A g t = true)) σ) : zCi true (d + 2) 0 0 M_X12_mayBeJoint [.inr (.inr (54, 0)), .inl (nI t)] σ K := by
  have hN : aN A ≤ 24 := hW.1.2.2.2.2.1
  have wt := (hW.2.1 t ht).1
  have i24 : vp_in (nI t) 24 := nI_in (by omega) (by omega)
  refine zC_intro pl_X12 (Nat.le_of_ble_eq_true rfl) (T_X12_mayBeJoint_0 ⟨i24, fun _ _ => i24, fun x hx => ⟨_, rfl, ?_⟩⟩)
  have ex : x = zb (mbJ A g t = true) := by
    rw [hx, nI_clamp (show t < 2 ^ 31 by omega)]
    apply zb_of0
    have c0 : (zgi σ 56 0 t ≤ 0) ↔ ¬ 0 < aK A t := by
      rw [(hR.2.1 t ht).1, show (0 : Int32) = nI 0 from rfl, nI_leI (by omega) (by omega)]
      omega
    rw [cMp hW hR ht, c0, h53, zy_b1 (by omega), zb_0]
    unfold mbJ
    rw [Bool.and_eq_true, Bool.or_eq_true, decide_eq_true_eq, decide_eq_true_eq]
    by_cases z : grB A g t = true
    · by_cases z1 : 0 ≤ aMp A t
      · simp [z, z1]
      · simp [z, z1]
    · by_cases z1 : 0 ≤ aMp A t
      · by_cases z2 : 0 < aK A t
        · simp [z, z1, z2]
        · simp [z, z1, z2]
      · simp [z, z1]
  rw [ex]
  exact hK
theorem S_X12_isPlaced {K : Int32 → zSt → Prop} (hW : zWf A) (hR : zRM A σ) {t : Nat} (ht : t < aN A) (hK : K (zb (plcd A t = true)) σ) : zCi true (d + 3) 0 0 M_X12_isPlaced [.inr (.inr (54, 0)), .inl (nI t)] σ K := by
  have hN : aN A ≤ 24 := hW.1.2.2.2.2.1
  refine zC_intro pl_X12 (Nat.le_of_ble_eq_true rfl) (T_X12_isPlaced_0 (S_X12_groupOf hW hR ht ?_))
  have main : ∀ (n k : Nat), k + n = aN A → ∀ v : Int32, v = zb (aAny (fun u => grB A t u && !decide (0 ≤ aMp A u)) k = false) → zE true (d + 3) 0 0 M_X12_isPlaced 11 [some (.inr (.inr (54, 0))), none, some (.inl (yset (grB A t) 32)), some (.inl v), some (.inl (nI k))] [] σ (fun r σ' => ∃ x, r = some (.inl x) ∧ K x σ') := by
    intro n
    induction n with
    | zero =>
      intro k hk v hv
      have : k = aN A := by omega
      subst this
      have e : v = zb (plcd A t = true) := by
        rw [hv]
        apply zb_iff
        unfold plcd
        rw [Bool.not_eq_true']
      rw [e]
      exact T_X12_isPlaced_11 ⟨fun _ => ⟨zb_01, _, rfl, hK⟩, fun g => absurd (by rw [hR.1.2.2.1]; exact Int32.le_refl _) g⟩
    | succ n ih =>
      intro k hk v hv
      have i24 : vp_in (nI k) 24 := nI_in (by omega) (by omega)
      refine T_X12_isPlaced_11 ⟨fun g => ?_, fun _ => ⟨fun _ _ => i24, fun x hx => ?_⟩⟩
      · rw [hR.1.2.2.1, nI_leI (by omega) (by omega)] at g
        omega
      · rw [← nI_succ]
        refine ih (k + 1) (by omega) x ?_
        rw [hx, nI_clamp (show k < 2 ^ 31 by omega)]
        apply zb_of0
        rw [cMp hW hR (by omega), zy_b1 (by omega), hv, zb_0, zb_0, aAny]
        generalize aAny (fun u => grB A t u && !decide (0 ≤ aMp A u)) k = X
        generalize grB A t k = Y
        by_cases z : 0 ≤ aMp A k
        · cases X <;> cases Y <;> simp [z]
        · cases X <;> cases Y <;> simp [z]
  exact main (aN A) 0 (by omega) 1 rfl
theorem L_X12_try76 {σ0 : zSt} (hW : zWf A) (hR : zRM A σ0) (hL : ∀ m, m < aM A → zLd A σ0 m) {p w' : Nat → Bool} {j t : Nat} {b : Int} {w : Int32} {LT : List zFl4} (hF0 : zFj A σ0 j b) (hp : ∀ t, p t = true → t < aN A ∧ 0 ≤ aMp A t) (hg : hgB A p j b = true) (hB : LT.length < 2 ^ 30) (hnext : ∀ σ', zOnly zQt σ0 σ' → zFk A σ' LT w → zE true (d + 6) kc ks M_X12_tryJoints 36 [some (.inr (.inr (54, 0))), some (.inl (yset w' 32)), some (.inl ((nI t + 1))), none] [] (σ') Q) : ∀ (r k : Nat), k + r = 8 → 1 ≤ k → ∀ (σ : zSt) (L : List zFl4), zOnly zQt σ0 σ → zgi σ 54 0 56 = yset p 32 → zgi σ 54 0 57 = nI k → zFk A σ L w → L ++ flK A p j b r k = LT → zE true (d + 6) kc ks M_X12_tryJoints 76 [some (.inr (.inr (54, 0))), some (.inl (yset w' 32)), some (.inl (nI t)), none] [] σ Q := by
  have hN : aN A ≤ 24 := hW.1.2.2.2.2.1
  intro r
  induction r with
  | zero =>
    intro k hk h1 σ L ho h56 h57 hK hLT
    have : k = 8 := by omega
    subst this
    have e : L = LT := by rw [← hLT]; unfold flK; rw [List.append_nil]
    subst e
    exact T_X12_tryJoints_76 ⟨fun _ => hnext σ ho hK, fun g => absurd (by rw [h57]; exact (show (8 : Int32) ≤ nI 8 by decide)) g⟩
  | succ r ih =>
    intro k hk h1 σ L ho h56 h57 hK hLT
    have hR1 : zRM A σ := hR.only ho (fun c k hb => by unfold zBM at hb; unfold zQt; omega)
    have hL1 : ∀ m, m < aM A → zLd A σ m := fun m hm c hc => by rw [ho.l 75 0 _ (by unfold zQt; omega), ho.l 76 0 _ (by unfold zQt; omega)]; exact hL m hm c hc
    have hF : zFj A σ j b := hF0.only ho (by unfold zQt; omega)
    have hP : zPt A σ p j b k := ⟨hF, h56, h57, by omega, hp⟩
    have c0 : ∀ n : Nat, n ≤ 24 → ((nI n ≤ 0) ↔ n = 0) := fun n hn => by
      rw [show (0 : Int32) = nI 0 from rfl, nI_leI (by omega) (by omega)]
      omega
    have step : ∀ (σ' : zSt) (L' : List zFl4), zOnly zQt σ0 σ' → zgi σ' 54 0 56 = yset p 32 → zgi σ' 54 0 57 = nI k → zFk A σ' L' w → L' ++ flK A p j b r (k + 1) = LT → zE true (d + 6) kc ks M_X12_tryJoints 127 [some (.inr (.inr (54, 0))), some (.inl (yset w' 32)), some (.inl (nI t)), none] [] (σ') Q := fun σ' L' o1 z56 z57 z2 z3 => T_X12_tryJoints_127 (by
      rw [z57, ← nI_succ]
      have o2 : zOnly (fun c _ k => c = 54 ∧ k = 57) σ' (zsi σ' 54 0 57 (nI (k + 1))) := zOnly.si ⟨rfl, rfl⟩
      exact ih (k + 1) (by omega) (by omega) _ L' (o1.tr (o2.mono (fun c j k h => by unfold zQt; omega))) (by rw [o2.i 54 0 56 (by omega)]; exact z56) (by rw [zgi_si, if_pos ⟨rfl, rfl, rfl⟩]) (z2.only o2 ⟨fun k k1 k2 => by omega, fun k => by omega⟩) z3)
    refine T_X12_tryJoints_76 ⟨fun g => ?_, fun _ => ?_⟩
    · rw [h57, show (8 : Int32) = nI 8 from rfl, nI_leI (by omega) (by omega)] at g
      omega
    · refine S_X12_isHinged hW hR1 hF h56 ⟨fun g => ?_, fun _ => ?_⟩
      · rw [zb_0] at g
        exact absurd hg g
      · refine S_X12_movesBy hW hR1 hL1 hP hg (fun σ1 o1 h87 => ?_)
        have oo := ho.tr (o1.mono (fun c j k h => by unfold zQt; omega))
        have hK1 : zFk A σ1 L w := hK.only o1 ⟨fun k k1 k2 => by omega, fun k => by omega⟩
        have hP1 : zPt A σ1 p j b k := hP.only o1 (by omega)
        have hm := mvN_le hN (p := p) (j := j) (k := k) (b := b)
        rw [c0 _ hm]
        unfold flK at hLT
        refine ⟨fun g => step σ1 L oo hP1.2.1 hP1.2.2.1 hK1 (by rw [if_neg (by omega), List.nil_append] at hLT; exact hLT), fun g => ?_⟩
        rw [if_pos (by omega), ← List.append_assoc] at hLT
        have hlen : L.length + 1 ≤ LT.length := by rw [← hLT, List.length_append, List.length_append, List.length_singleton]; omega
        have fin : ∀ σ2 : zSt, zOnly zKm σ1 σ2 → (w = nI L.length → zKp A σ2 (j, b, p, k)) → (¬ w = nI L.length → σ2 = σ1) → zE true (d + 6) kc ks M_X12_tryJoints 117 [some (.inr (.inr (54, 0))), some (.inl (yset w' 32)), some (.inl (nI t)), none] [] σ2 Q := fun σ2 o2 y1 y2 => T_X12_tryJoints_117 (by
          have o3 : zOnly (fun c _ k => c = 54 ∧ k = 58) σ2 (zsi σ2 54 0 58 (zgi σ2 54 0 58 + 1)) := zOnly.si ⟨rfl, rfl⟩
          have e58 : zgi σ2 54 0 58 = nI L.length := by rw [o2.i 54 0 58 (by unfold zKm; omega)]; exact hK1.1
          refine step _ (L ++ [(j, b, p, k)]) ((oo.tr (o2.mono (fun c j k h => by unfold zKm at h; unfold zQt; omega))).tr (o3.mono (fun c j k h => by unfold zQt; omega))) (by rw [o3.i 54 0 56 (by omega), o2.i 54 0 56 (by unfold zKm; omega)]; exact hP1.2.1) (by rw [o3.i 54 0 57 (by omega), o2.i 54 0 57 (by unfold zKm; omega)]; exact hP1.2.2.1) ⟨?_, ?_, fun i x hx hi => ?_⟩ hLT
          · rw [zgi_si, if_pos ⟨rfl, rfl, rfl⟩, e58, ← nI_succ, List.length_append, List.length_singleton]
          · rw [o3.i 54 0 59 (by omega), o2.i 54 0 59 (by unfold zKm; omega)]; exact hK1.2.1
          · refine zKp.only ?_ o3 ⟨fun k k1 k2 => by omega, fun k => by omega⟩
            by_cases e : i = L.length
            · subst e
              rw [List.getElem?_append_right (Nat.le_refl _), Nat.sub_self] at hx
              cases hx
              exact y1 hi
            · by_cases e2 : i < L.length
              · rw [List.getElem?_append_left e2] at hx
                have hne : ¬ w = nI L.length := fun q => by
                  rw [hi, nI_eqI (by omega) (by omega)] at q
                  omega
                rw [y2 hne]
                exact hK1.2.2 i x hx hi
              · rw [List.getElem?_eq_none (by rw [List.length_append, List.length_singleton]; omega)] at hx
                cases hx)
        rw [hK1.1, hK1.2.1]
        refine ⟨fun g2 => fin σ1 zOnly.rf (fun q => absurd q.symm g2) (fun _ => rfl), fun g2 => S_X12_keepFlip hW hP1 (h87 (by omega)) (fun σ2 o2 y => fin σ2 o2 (fun _ => y) (fun q => absurd g2.symm q))⟩
theorem L_X12_try36 {σ0 : zSt} (hW : zWf A) (hR : zRM A σ0) (hL : ∀ m, m < aM A → zLd A σ0 m) {g j : Nat} {b : Int} {w : Int32} {LT : List zFl4} (hF0 : zFj A σ0 j b) (h53 : zgi σ0 54 0 53 = yset (grB A g) 32) (hgN : ∀ u, gr A g u → u < aN A) (hpl : ∀ u, gr A g u → 0 ≤ aMp A u) (hB : LT.length < 2 ^ 30) (hQ : ∀ σ', zOnly zQt σ0 σ' → zFk A σ' LT w → Q none σ') : ∀ (r t : Nat), t + r = aN A → ∀ (σ : zSt) (L : List zFl4) (w' : Nat → Bool), zOnly zQt σ0 σ → zFk A σ L w → (∀ u, w' u = true → rsB A g j b u = true) → L ++ flS A g j b r t w' = LT → zE true (d + 6) kc ks M_X12_tryJoints 36 [some (.inr (.inr (54, 0))), some (.inl (yset w' 32)), some (.inl (nI t)), none] [] σ Q := by
  have hN : aN A ≤ 24 := hW.1.2.2.2.2.1
  intro r
  induction r with
  | zero =>
    intro t ht σ L w' ho hK hw hLT
    have : t = aN A := by omega
    subst this
    have e : L = LT := by rw [← hLT]; unfold flS; rw [List.append_nil]
    subst e
    exact T_X12_tryJoints_36 ⟨fun _ => hQ σ ho hK, fun g => absurd (by rw [ho.i 54 0 4 (by unfold zQt; omega), hR.1.2.2.1]; exact Int32.le_refl _) g⟩
  | succ r ih =>
    intro t ht σ L w' ho hK hw hLT
    have hR1 : zRM A σ := hR.only ho (fun c k hb => by unfold zBM at hb; unfold zQt; omega)
    have hF : zFj A σ j b := hF0.only ho (by unfold zQt; omega)
    unfold flS at hLT
    refine T_X12_tryJoints_36 ⟨fun g => ?_, fun _ => ?_⟩
    · rw [hR1.1.2.2.1, nI_leI (by omega) (by omega)] at g
      omega
    · rw [zy_b1 (by omega), zb_0]
      refine ⟨fun gw => ?_, fun gw => ?_⟩
      · rw [if_neg gw] at hLT
        rw [← nI_succ]
        exact ih (t + 1) (by omega) σ L w' ho hK hw hLT
      · have g1 : w' t = true := Decidable.not_not.mp gw
        rw [if_pos g1] at hLT
        refine S_X12_partOf hW hR1 hF (by rw [ho.i 54 0 53 (by unfold zQt; omega)]; exact h53) (by omega) ?_
        have ew : yset w' 32 &&& (yset (ptB A (rsB A g j b) t) 32 ^^^ (-1)) = yset (fun u => w' u && !ptB A (rsB A g j b) t u) 32 := yset_eq (fun i hi => by rw [b_and, bt_set hi, bt_not _ hi, bt_set hi])
        rw [ew]
        have hp : ∀ u, ptB A (rsB A g j b) t u = true → u < aN A ∧ 0 ≤ aMp A u := fun u hu => by
          have q := pt_rs (hw t g1) hu
          unfold rsB at q
          rw [Bool.and_eq_true, Bool.and_eq_true] at q
          have q1 := grB_iff.mp q.1.1
          exact ⟨hgN u q1, hpl u q1⟩
        have hw2 : ∀ u, (w' u && !ptB A (rsB A g j b) t u) = true → rsB A g j b u = true := fun u hu => by
          rw [Bool.and_eq_true] at hu
          exact hw u hu.1
        have hnext : ∀ (LS : List zFl4), LS ++ flS A g j b r (t + 1) (fun u => w' u && !ptB A (rsB A g j b) t u) = LT → ∀ σ', zOnly zQt σ σ' → zFk A σ' LS w → zE true (d + 6) kc ks M_X12_tryJoints 36 [some (.inr (.inr (54, 0))), some (.inl (yset (fun u => w' u && !ptB A (rsB A g j b) t u) 32)), some (.inl ((nI t + 1))), none] [] (σ') Q := fun LS e σ' o1 k1 => by
          rw [← nI_succ]
          exact ih (t + 1) (by omega) σ' LS _ (ho.tr o1) k1 hw2 e
        have o2 : zOnly (fun c _ k => c = 54 ∧ (k = 56 ∨ k = 57)) σ (zsi (zsi σ 54 0 56 (yset (ptB A (rsB A g j b) t) 32)) 54 0 57 1) := (zOnly.si ⟨rfl, Or.inl rfl⟩).tr (zOnly.si ⟨rfl, Or.inr rfl⟩)
        have e56 : zgi (zsi (zsi σ 54 0 56 (yset (ptB A (rsB A g j b) t) 32)) 54 0 57 1) 54 0 56 = yset (ptB A (rsB A g j b) t) 32 := by simp [zgi_si]
        have e57 : zgi (zsi (zsi σ 54 0 56 (yset (ptB A (rsB A g j b) t) 32)) 54 0 57 1) 54 0 57 = nI 1 := by simp [zgi_si]; rfl
        generalize zsi (zsi σ 54 0 56 (yset (ptB A (rsB A g j b) t) 32)) 54 0 57 1 = σ2 at o2 e56 e57 ⊢
        have hR2 : zRM A σ2 := hR1.only o2 (fun c k hb => by unfold zBM at hb; omega)
        have hL2 : ∀ m, m < aM A → zLd A σ2 m := fun m hm c hc => by rw [o2.l 75 0 _ (by omega), o2.l 76 0 _ (by omega), ho.l 75 0 _ (by unfold zQt; omega), ho.l 76 0 _ (by unfold zQt; omega)]; exact hL m hm c hc
        have hF2 : zFj A σ2 j b := hF.only o2 (by omega)
        have hK2 : zFk A σ2 L w := hK.only o2 ⟨fun k k1 k2 => by omega, fun k => by omega⟩
        have ot : zOnly zQt σ σ2 := o2.mono (fun c j k h => by unfold zQt; omega)
        by_cases hg : hgB A (ptB A (rsB A g j b) t) j b = true
        · rw [if_pos hg, ← List.append_assoc] at hLT
          have hb : (L ++ flK A (ptB A (rsB A g j b) t) j b 7 1).length < 2 ^ 30 := by
            have := congrArg List.length hLT
            rw [List.length_append] at this
            omega
          exact L_X12_try76 (LT := L ++ flK A (ptB A (rsB A g j b) t) j b 7 1) hW hR2 hL2 hF2 hp hg hb (fun σ' o3 k3 => hnext _ hLT σ' (ot.tr o3) k3) 7 1 rfl (Nat.le_refl _) σ2 L zOnly.rf e56 e57 hK2 rfl
        · rw [if_neg hg, List.nil_append] at hLT
          refine T_X12_tryJoints_76 ⟨fun q => ?_, fun _ => S_X12_isHinged hW hR2 hF2 e56 ⟨fun _ => hnext L hLT σ2 ot hK2, fun q => ?_⟩⟩
          · rw [e57] at q
            exact absurd q (by decide)
          · rw [zb_0] at q
            exact absurd (Decidable.not_not.mp q) hg
theorem S_X12_tryJoints {K : zSt → Prop} (hW : zWf A) (hR : zRM A σ) (hL : ∀ m, m < aM A → zLd A σ m) {g j : Nat} {b : Int} {w : Int32} {L : List zFl4} (hF : zFj A σ j b) (h53 : zgi σ 54 0 53 = yset (grB A g) 32) (hgN : ∀ u, gr A g u → u < aN A) (hpl : ∀ u, gr A g u → 0 ≤ aMp A u) (hB : (L ++ flS A g j b (aN A) 0 (rsB A g j b)).length < 2 ^ 30) (hK0 : zFk A σ L w) (hK : ∀ σ', zOnly zQt σ σ' → zFk A σ' (L ++ flS A g j b (aN A) 0 (rsB A g j b)) w → K σ') : zCv true (d + 6) 0 0 M_X12_tryJoints [.inr (.inr (54, 0))] σ K := by
  have hN : aN A ≤ 24 := hW.1.2.2.2.2.1
  refine zC_intro pl_X12 (Nat.le_of_ble_eq_true rfl) (T_X12_tryJoints_0 (fun x hx => ?_))
  have f := hF
  obtain ⟨f1, f2, f3, f4, f5, f6, f7⟩ := f
  rw [f2] at hx
  have cb : (0 ≤ iI b) ↔ 0 ≤ b := iI_le (a := 0) (by omega) (by omega)
  have ex : x = if 0 ≤ b then (zishl 1 (iI b)) ^^^ (-1) else (-1) := by
    rw [hx]
    by_cases z : 0 ≤ b
    · rw [if_pos z, if_pos (cb.mpr z)]
    · rw [if_neg z, if_neg (fun q => z (cb.mp q))]
  rw [f1, h53, yset_rs (by omega) (by omega) ex]
  exact L_X12_try36 (Q := fun r σ' => r = none ∧ K σ') hW hR hL hF h53 hgN hpl hB (fun σ' o k => ⟨rfl, hK σ' o k⟩) (aN A) 0 (by omega) σ L _ zOnly.rf hK0 (fun u h => h) rfl
end zMaa
