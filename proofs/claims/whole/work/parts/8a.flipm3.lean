/-! flips (reference): what a turning moves -/
abbrev z87 (c _j _k : Nat) : Prop := c = 87
theorem mvN_0 {A : zAb} {p : Nat → Bool} {j k : Nat} {b : Int} (h : ¬ (mv1 A j b k = true ∧ aAny (mv2 A p j k) (aN A) = false ∧ aAny (mv3 A p j k) (aM A) = false ∧ (aAl A = true → aAny (fun t => aAny (mv4 A p j k t) (aN A)) (aN A) = false))) : mvN A p j b k = 0 := if_neg h
theorem cTh_r {A : zAb} (hW : zWf A) {p : Nat → Bool} {j k t : Nat} (h2 : aAny (mv2 A p j k) (aN A) = false) (ht : t < aN A) (h : p t = true ∨ 0 ≤ aMp A t) : ∃ c : Nat, cTh A p j k t = (c : Int) ∧ c < 64 := by
  unfold cTh
  by_cases z : p t = true
  · rw [if_pos z]
    have := aAny_f.mp h2 t ht
    unfold mv2 at this
    rw [z, Bool.true_and, Bool.not_eq_false', Bool.and_eq_true, decide_eq_true_eq] at this
    unfold tnT at this ⊢
    rcases tnC_r hW k (aMp A j).toNat (aMp A t).toNat with q | ⟨c, q, q2, q3⟩
    · omega
    · exact ⟨c, q, q2⟩
  · rw [if_neg z]
    obtain ⟨c, q, q2, -⟩ := (aMp_r hW ht).2.1 (h.resolve_left z)
    exact ⟨c, q, q2⟩
theorem hg_map {A : zAb} {p : Nat → Bool} {j : Nat} {b : Int} (hP : ∀ t, p t = true → t < aN A ∧ 0 ≤ aMp A t) (hj : 0 ≤ aMp A j) (hb : 0 ≤ b → 0 ≤ aMp A b.toNat) (hg : hgB A p j b = true) {m : Nat} (hm : m < aM A) (ho : mO A m = true) (h : p (mA A m) = true ∨ p (mB A m) = true) : 0 ≤ aMp A (mA A m) ∧ 0 ≤ aMp A (mB A m) := by
  unfold hgB at hg
  rw [Bool.and_eq_true, Bool.and_eq_true, Bool.not_eq_true'] at hg
  have g := aAny_f.mp hg.1.1 m hm
  have ok : ∀ u : Nat, u = j ∨ (u : Int) = b → 0 ≤ aMp A u := fun u hu => by
    rcases hu with rfl | rfl
    · exact hj
    · have := hb (by omega)
      rw [Int.toNat_natCast] at this
      exact this
  unfold hgD hgO at g
  rw [ho, Bool.true_and] at g
  by_cases z1 : p (mA A m) = true
  · refine ⟨(hP _ z1).2, ?_⟩
    by_cases z2 : p (mB A m) = true
    · exact (hP _ z2).2
    · rw [Bool.not_eq_true] at z2
      rw [z1, z2] at g
      simp only [if_pos] at g
      apply ok
      simpa [← Bool.not_eq_true, Decidable.or_iff_not_imp_left] using g
  · have z2 := h.resolve_left z1
    refine ⟨?_, (hP _ z2).2⟩
    rw [Bool.not_eq_true] at z1
    rw [z1, z2] at g
    apply ok
    simpa [← Bool.not_eq_true, Decidable.or_iff_not_imp_left] using g
section zMz
variable {d kc ks : Nat} {σ : zSt} {A : zAb} {Q : Option zV → zSt → Prop}
/-- the part p that turns by k about j and b -/
def zPt (A : zAb) (σ : zSt) (p : Nat → Bool) (j : Nat) (b : Int) (k : Nat) : Prop := zFj A σ j b ∧ zgi σ 54 0 56 = yset p 32 ∧ zgi σ 54 0 57 = nI k ∧ k < 8 ∧ ∀ t, p t = true → t < aN A ∧ 0 ≤ aMp A t
theorem zPt.only {σ' : zSt} {p : Nat → Bool} {j k : Nat} {b : Int} {M : Nat → Nat → Nat → Prop} (h : zPt A σ p j b k) (ho : zOnly M σ σ') (hm : ¬ M 54 0 54 ∧ ¬ M 54 0 55 ∧ ¬ M 54 0 56 ∧ ¬ M 54 0 57) : zPt A σ' p j b k := by
  obtain ⟨h1, h2, h3, h4, h5⟩ := h
  exact ⟨h1.only ho ⟨hm.1, hm.2.1⟩, by rw [ho.i 54 0 56 hm.2.2.1]; exact h2, by rw [ho.i 54 0 57 hm.2.2.2]; exact h3, h4, h5⟩
theorem S_X12_cellThen {K : Int32 → zSt → Prop} (hW : zWf A) (hR : zRM A σ) {p : Nat → Bool} {j k t : Nat} (h56 : zgi σ 54 0 56 = yset p 32) (ht : t < aN A) (h87 : p t = true → zgi σ 87 0 t = iI (tnT A j k t)) (hK : K (iI (cTh A p j k t)) σ) : zCi true (d + 2) 0 0 M_X12_cellThen [.inr (.inr (54, 0)), .inl (nI t)] σ K := by
  have hN : aN A ≤ 24 := hW.1.2.2.2.2.1
  have i24 : vp_in (nI t) 24 := nI_in (by omega) (by omega)
  refine zC_intro pl_X12 (Nat.le_of_ble_eq_true rfl) (T_X12_cellThen_0 ⟨fun _ => i24, fun _ => i24, fun x hx => ⟨_, rfl, ?_⟩⟩)
  have ex : x = iI (cTh A p j k t) := by
    rw [hx, nI_clamp (show t < 2 ^ 31 by omega), h56]
    unfold cTh
    by_cases z : p t = true
    · rw [if_neg (by rw [zy_b1 (by omega), zb_0]; exact fun q => q z), if_pos z, h87 z]
    · rw [if_pos (by rw [zy_b1 (by omega), zb_0]; exact z), if_neg z, (hR.2.1 t ht).2.2.2.2.2.2.2.2.2]
  rw [ex]
  exact hK
theorem L_X12_mv257 (hW : zWf A) (hR : zRM A σ) {p : Nat → Bool} {b : Int} {j k t : Nat} {v1 : Int32} (hP : zPt A σ p j b k) (h2 : aAny (mv2 A p j k) (aN A) = false) (h87 : ∀ t, t < aN A → p t = true → zgi σ 87 0 t = iI (tnT A j k t)) (ht : t < aN A) (hbad : aAny (mv4 A p j k t) (aN A) = true → Q (some (.inl 0)) σ) (hnext : aAny (mv4 A p j k t) (aN A) = false → zE true (d + 5) kc ks M_X12_movesBy 240 [some (.inr (.inr (54, 0))), some (.inl (v1)), some (.inl ((nI t + 1))), none] [] σ Q) : ∀ (n i : Nat), i + n = aN A → aAny (mv4 A p j k t) i = false → zE true (d + 5) kc ks M_X12_movesBy 257 [some (.inr (.inr (54, 0))), some (.inl (v1)), some (.inl (nI t)), some (.inl (nI i))] [] σ Q := by
  have hN : aN A ≤ 24 := hW.1.2.2.2.2.1
  obtain ⟨-, h56, -, -, -⟩ := hP
  intro n
  induction n with
  | zero =>
    intro i hi h
    have : i = aN A := by omega
    subst this
    exact T_X12_movesBy_257 ⟨fun _ => hnext h, fun g => absurd (by rw [hR.1.2.2.1]; exact Int32.le_refl _) g⟩
  | succ n ih =>
    intro i hi h
    have stay : mv4 A p j k t i = false → zE true (d + 5) kc ks M_X12_movesBy 257 [some (.inr (.inr (54, 0))), some (.inl (v1)), some (.inl (nI t)), some (.inl ((nI i + 1)))] [] σ Q := fun q => by
      rw [← nI_succ]
      exact ih (i + 1) (by omega) (by rw [aAny, h, q]; rfl)
    refine T_X12_movesBy_257 ⟨fun g => ?_, fun _ => ?_⟩
    · rw [hR.1.2.2.1, nI_leI (by omega) (by omega)] at g
      omega
    · rw [h56, zy_b1 (by omega), zb_0, nI_eq (by omega) (by omega)]
      refine ⟨fun g => stay ?_, fun g => ?_⟩
      · unfold mv4
        rcases g with g | g
        · rw [decide_eq_true g]; rfl
        · rw [Bool.not_eq_true] at g
          rw [g]; simp
      · have g1 : ¬ i = t := fun q => g (Or.inl q)
        have g2 : p t = true := Decidable.not_not.mp (fun q => g (Or.inr q))
        refine S_X12_cellThen hW hR h56 (by omega) (h87 i (by omega)) ⟨nI_in (by omega) (by omega), ?_⟩
        rw [nI_clamp (show t < 2 ^ 31 by omega), h87 t ht g2]
        have e4 : mv4 A p j k t i = decide (cTh A p j k i = tnT A j k t) := by
          unfold mv4
          rw [decide_eq_false g1, g2]
          rfl
        have r1 : -9 ≤ cTh A p j k i ∧ cTh A p j k i < 64 := by
          unfold cTh
          split
          · unfold tnT
            rcases tnC_r hW k (aMp A j).toNat (aMp A i).toNat with q | ⟨c, q, q2, q3⟩ <;> omega
          · exact (aMp_r hW (by omega)).1
        have r2 : -9 ≤ tnT A j k t ∧ tnT A j k t < 64 := by
          unfold tnT
          rcases tnC_r hW k (aMp A j).toNat (aMp A t).toNat with q | ⟨c, q, q2, q3⟩ <;> omega
        rw [iI_eqI (by omega) (by omega)]
        refine ⟨fun g3 => stay ?_, fun g3 => hbad ?_⟩
        · rw [e4, decide_eq_false g3]
        · exact aAny_iff.mpr ⟨i, by omega, by rw [e4, decide_eq_true g3]⟩
theorem L_X12_mv240 (hW : zWf A) (hR : zRM A σ) {p : Nat → Bool} {j k : Nat} {b : Int} {v1 : Int32} (hP : zPt A σ p j b k) (h2 : aAny (mv2 A p j k) (aN A) = false) (h87 : ∀ t, t < aN A → p t = true → zgi σ 87 0 t = iI (tnT A j k t)) (hbad : ¬ (aAl A = true → aAny (fun t => aAny (mv4 A p j k t) (aN A)) (aN A) = false) → Q (some (.inl 0)) σ) (hgood : (aAl A = true → aAny (fun t => aAny (mv4 A p j k t) (aN A)) (aN A) = false) → Q (some (.inl v1)) σ) : ∀ (n i : Nat), i + n = aN A → (aAl A = true → aAny (fun t => aAny (mv4 A p j k t) (aN A)) i = false) → zE true (d + 5) kc ks M_X12_movesBy 240 [some (.inr (.inr (54, 0))), some (.inl (v1)), some (.inl (nI i)), none] [] σ Q := by
  have hN : aN A ≤ 24 := hW.1.2.2.2.2.1
  intro n
  induction n with
  | zero =>
    intro i hi h
    have : i = aN A := by omega
    subst this
    exact T_X12_movesBy_240 ⟨fun _ => hgood h, fun g => absurd (Or.inl (by rw [hR.1.2.2.1]; exact Int32.le_refl _)) g⟩
  | succ n ih =>
    intro i hi h
    refine T_X12_movesBy_240 ?_
    rw [hR.1.2.2.1, nI_leI (by omega) (by omega), hR.1.2.2.2.2.2.1, zb_0]
    refine ⟨fun g => hgood (fun q => ?_), fun g => ?_⟩
    · rcases g with g | g
      · omega
      · exact absurd q g
    · have al : aAl A = true := Decidable.not_not.mp (fun q => g (Or.inr q))
      have h0 := h al
      refine L_X12_mv257 (b := b) hW hR hP h2 h87 (show i < aN A by omega) (fun q => hbad (fun z => ?_)) (fun q => ?_) (aN A) 0 (by omega) rfl
      · have := aAny_f.mp (z al) i (by omega)
        rw [q] at this
        cases this
      · rw [← nI_succ]
        exact ih (i + 1) (by omega) (fun _ => by rw [aAny, h0, q]; rfl)
theorem L_X12_mv133 (hW : zWf A) (hR : zRM A σ) (hL : ∀ m, m < aM A → zLd A σ m) {p : Nat → Bool} {j k : Nat} {b : Int} {v1 : Int32} (hP : zPt A σ p j b k) (hg : hgB A p j b = true) (h2 : aAny (mv2 A p j k) (aN A) = false) (h87 : ∀ t, t < aN A → p t = true → zgi σ 87 0 t = iI (tnT A j k t)) (hbad : aAny (mv3 A p j k) (aM A) = true → Q (some (.inl 0)) σ) (hnext : aAny (mv3 A p j k) (aM A) = false → zE true (d + 5) kc ks M_X12_movesBy 240 [some (.inr (.inr (54, 0))), some (.inl (v1)), some (.inl (0)), none] [] σ Q) : ∀ (n i : Nat), i + n = aM A → aAny (mv3 A p j k) i = false → zE true (d + 5) kc ks M_X12_movesBy 133 [some (.inr (.inr (54, 0))), some (.inl (v1)), some (.inl (nI i)), none] [] σ Q := by
  have hN : aN A ≤ 24 := hW.1.2.2.2.2.1
  have hM : aM A ≤ 60 := hW.1.2.2.2.2.2.1
  obtain ⟨⟨f1, f2, f3, f4, f5, f6, f7⟩, h56, -, -, hp⟩ := hP
  intro n
  induction n with
  | zero =>
    intro i hi h
    have : i = aM A := by omega
    subst this
    exact T_X12_movesBy_133 ⟨fun _ => hnext h, fun g => absurd (by rw [hR.1.2.2.2.1]; exact Int32.le_refl _) g⟩
  | succ n ih =>
    intro i hi h
    have him : i < aM A := by omega
    obtain ⟨r1, r2, r3, r4, r5, r6⟩ := hR.2.2.1 i him
    obtain ⟨w1, w2, w3, w4⟩ := hW.2.2.1 i him
    have i60 : vp_in (nI i) 60 := nI_in (by omega) (by omega)
    have stay : mv3 A p j k i = false → zE true (d + 5) kc ks M_X12_movesBy 133 [some (.inr (.inr (54, 0))), some (.inl (v1)), some (.inl ((nI i + 1))), none] [] σ Q := fun q => by
      rw [← nI_succ]
      exact ih (i + 1) (by omega) (by rw [aAny, h, q]; rfl)
    refine T_X12_movesBy_133 ⟨fun g => ?_, fun _ => ?_⟩
    · rw [hR.1.2.2.2.1, nI_leI (by omega) (by omega)] at g
      omega
    · rw [nI_clamp (show i < 2 ^ 31 by omega), r2, r3, r6, h56, zy_b1 (by omega), zy_b1 (by omega)]
      refine ⟨i60, fun _ => i60, fun _ _ => i60, fun x hx => ?_⟩
      have ex : x = 0 ↔ ¬ (mO A i = true ∧ (p (mA A i) = true ∨ p (mB A i) = true)) := by
        rw [hx, zb_of0 (P := mO A i = true ∧ (p (mA A i) = true ∨ p (mB A i) = true)) ?_, zb_0]
        rw [zb_0, zb_0, zb_0]
        by_cases z : mO A i = true
        · by_cases z1 : p (mA A i) = true
          · simp [z, z1]
          · simp [z, z1]
        · simp [z]
      refine ⟨fun g => stay ?_, fun g => ?_⟩
      · have := ex.mp g
        unfold mv3
        refine Bool.eq_false_iff.mpr (fun v => this ?_)
        rw [Bool.and_eq_true, Bool.and_eq_true, Bool.or_eq_true] at v
        exact v.1
      · obtain ⟨g1, g2⟩ := Decidable.not_not.mp (fun q => g (ex.mpr q))
        obtain ⟨m1, m2⟩ := hg_map hp f4 f7 hg him g1 g2
        obtain ⟨c1, e1, l1⟩ := cTh_r hW (k := k) h2 w2 (Or.inr m1)
        obtain ⟨c2, e2, l2⟩ := cTh_r hW (k := k) h2 w3 (Or.inr m2)
        refine ⟨i60, S_X12_cellThen (j := j) (k := k) hW hR h56 w2 (h87 _ w2) ?_⟩
        rw [e1, iI_nat, e64]
        refine ⟨nI_in (by omega) (by omega), i60, ?_⟩
        rw [r3]
        refine S_X12_cellThen (j := j) (k := k) hW hR h56 w3 (h87 _ w3) ?_
        rw [e2, iI_nat, nI_clamp (show 64 * i + c1 < 2 ^ 31 by omega), (hL i him _ l1).1, zl_b1 l2, zb_0]
        have e3 : mv3 A p j k i = !kept A i c1 c2 := by
          unfold mv3
          rw [e1, e2, Int.toNat_natCast, Int.toNat_natCast, g1, Bool.true_and, (Bool.or_eq_true _ _).mpr g2, Bool.true_and]
        refine ⟨fun g3 => stay ?_, fun g3 => hbad ?_⟩
        · rw [e3, Decidable.not_not.mp g3]; rfl
        · rw [Bool.not_eq_true] at g3
          exact aAny_iff.mpr ⟨i, him, by rw [e3, g3]; rfl⟩
theorem L_X12_mv38 {σ0 : zSt} (hW : zWf A) (hR : zRM A σ0) {p : Nat → Bool} {j k : Nat} {b : Int} (hP : zPt A σ0 p j b k) (hbad : aAny (mv2 A p j k) (aN A) = true → ∀ σ', zOnly z87 σ0 σ' → Q (some (.inl 0)) σ') (hnext : aAny (mv2 A p j k) (aN A) = false → ∀ σ', zOnly z87 σ0 σ' → (∀ t, t < aN A → p t = true → zgi σ' 87 0 t = iI (tnT A j k t)) → zE true (d + 5) kc ks M_X12_movesBy 133 [some (.inr (.inr (54, 0))), some (.inl (nI (mvC A p j k (aN A)))), some (.inl (0)), none] [] (σ') Q) : ∀ (n i : Nat), i + n = aN A → ∀ σ : zSt, zOnly z87 σ0 σ → (∀ t, t < i → p t = true → zgi σ 87 0 t = iI (tnT A j k t)) → aAny (mv2 A p j k) i = false → zE true (d + 5) kc ks M_X12_movesBy 38 [some (.inr (.inr (54, 0))), some (.inl (nI (mvC A p j k i))), some (.inl (nI i)), none] [] σ Q := by
  have hN : aN A ≤ 24 := hW.1.2.2.2.2.1
  intro n
  induction n with
  | zero =>
    intro i hi σ ho h87 h
    have : i = aN A := by omega
    subst this
    refine T_X12_movesBy_38 ⟨fun _ => hnext h σ ho h87, fun g => absurd (by rw [ho.i 54 0 4 (by omega), hR.1.2.2.1]; exact Int32.le_refl _) g⟩
  | succ n ih =>
    intro i hi σ ho h87 h
    have hR1 : zRM A σ := hR.only ho (fun c k hb => by unfold zBM at hb; omega)
    have hP1 : zPt A σ p j b k := hP.only ho (by omega)
    obtain ⟨hF, h56, h57, hk, hp⟩ := hP1
    have i24 : vp_in (nI i) 24 := nI_in (by omega) (by omega)
    refine T_X12_movesBy_38 ⟨fun g => ?_, fun _ => ?_⟩
    · rw [hR1.1.2.2.1, nI_leI (by omega) (by omega)] at g
      omega
    · rw [h56, zy_b1 (by omega), zb_0, nI_clamp (show i < 2 ^ 31 by omega)]
      refine ⟨fun g => ?_, fun g => ⟨i24, ?_⟩⟩
      · rw [← nI_succ]
        have := ih (i + 1) (by omega) σ ho (fun t ht hz => h87 t (by
          by_cases e : t = i
          · subst e; exact absurd hz g
          · omega) hz) (by
          rw [aAny, h, Bool.false_or]
          unfold mv2
          rw [Bool.not_eq_true] at g
          rw [g]; rfl)
        rw [show mvC A p j k (i + 1) = mvC A p j k i by
          unfold mvC
          rw [fb_ct_succ, Bool.not_eq_true] at *
          rw [g]; rfl] at this
        exact this
      · have g1 : p i = true := Decidable.not_not.mp g
        obtain ⟨e1, e2⟩ := vMp hW hR1 (hp i g1).1 (hp i g1).2
        rw [e1]
        refine S_X12_turnedCell hW hR1 hF h57 hk e2 ⟨i24, i24, ?_⟩
        have eT : tnC A k (aMp A j).toNat (aMp A i).toNat = tnT A j k i := rfl
        rw [eT]
        have o2 : zOnly z87 σ (zsi σ 87 0 i (iI (tnT A j k i))) := zOnly.si rfl
        have e87 : zgi (zsi σ 87 0 i (iI (tnT A j k i))) 87 0 i = iI (tnT A j k i) := by rw [zgi_si, if_pos ⟨rfl, rfl, rfl⟩]
        have o87 : ∀ t, t < i → p t = true → zgi (zsi σ 87 0 i (iI (tnT A j k i))) 87 0 t = iI (tnT A j k t) := fun t ht hz => by
          rw [zgi_si, if_neg (by omega)]
          exact h87 t ht hz
        generalize zsi σ 87 0 i (iI (tnT A j k i)) = σ2 at o2 e87 o87 ⊢
        have o3 := ho.tr o2
        have hR2 : zRM A σ2 := hR.only o3 (fun c k hb => by unfold zBM at hb; omega)
        have rT2 : -9 ≤ tnT A j k i ∧ tnT A j k i < 64 := by
          rw [← eT]
          rcases tnC_r hW k (aMp A j).toNat (aMp A i).toNat with q | ⟨c, q, q2, q3⟩ <;> omega
        have c0 : (iI (tnT A j k i) < 0) ↔ tnT A j k i < 0 := by
          rw [show (0 : Int32) = iI 0 from rfl, iI_lt (by omega) (by omega)]
        have bad : mv2 A p j k i = true → Q (some (.inl 0)) σ2 := fun q => hbad (aAny_iff.mpr ⟨i, by omega, q⟩) σ2 o3
        rw [e87, c0]
        refine ⟨fun g2 => bad ?_, fun g2 => S_X12_toldOf hW hR2 (by omega) ⟨i24, ?_⟩⟩
        · unfold mv2
          rw [g1, decide_eq_false (by omega)]
          rfl
        · have n9 : ¬ tnT A j k i = -9 := by omega
          obtain ⟨c, q1, q2, q3⟩ := (show tnT A j k i = -9 ∨ ∃ x : Nat, tnT A j k i = (x : Int) ∧ x < 64 ∧ acell A x = true from tnC_r hW k (aMp A j).toNat (aMp A i).toNat).resolve_left n9
          rw [e87, q1, iI_nat, zl_b1 q2, zb_0]
          have e3 : mv2 A p j k i = !atold A i c := by
            unfold mv2
            rw [g1, q1, decide_eq_true (by omega), Int.toNat_natCast]
            rfl
          refine ⟨fun g3 => ⟨i24, i24, fun x hx => ?_⟩, fun g3 => bad ?_⟩
          · have em : zgi σ2 62 0 i = nI (aMp A i).toNat := by rw [o2.i 62 0 i (by omega)]; exact e1
            have r0 := (hp i g1).2
            rw [← nI_succ]
            have := ih (i + 1) (by omega) σ2 o3 (fun t ht hz => by
              by_cases e : t = i
              · subst e; exact e87
              · exact o87 t (by omega) hz) (by
              rw [aAny, h, Bool.false_or, e3, Decidable.not_not.mp g3]; rfl)
            rw [show nI (mvC A p j k (i + 1)) = nI (mvC A p j k i) + x by
              have ec : mvC A p j k (i + 1) = mvC A p j k i + (if (p i && !decide (tnT A j k i = aMp A i)) = true then 1 else 0) := fb_ct_succ _ _
              have cz : (nI c = nI (aMp A i).toNat) ↔ c = (aMp A i).toNat := nI_eq (by omega) (by omega)
              rw [ec, hx, em, g1, Bool.true_and]
              by_cases z : c = (aMp A i).toNat
              · rw [if_neg (by rw [decide_eq_true (by omega)]; simp), if_neg (fun q => q (cz.mpr z))]
                exact (Int32.add_zero _).symm
              · rw [if_pos (by rw [decide_eq_false (by omega)]; rfl), if_pos (fun q => z (cz.mp q))]
                exact nI_succ _] at this
            exact this
          · rw [Bool.not_eq_true] at g3
            rw [e3, g3]; rfl
theorem S_X12_movesBy {K : Int32 → zSt → Prop} (hW : zWf A) (hR : zRM A σ) (hL : ∀ m, m < aM A → zLd A σ m) {p : Nat → Bool} {j k : Nat} {b : Int} (hP : zPt A σ p j b k) (hg : hgB A p j b = true) (hK : ∀ σ', zOnly z87 σ σ' → (0 < mvN A p j b k → ∀ t, t < aN A → p t = true → zgi σ' 87 0 t = iI (tnT A j k t)) → K (nI (mvN A p j b k)) σ') : zCi true (d + 5) 0 0 M_X12_movesBy [.inr (.inr (54, 0))] σ K := by
  have hN : aN A ≤ 24 := hW.1.2.2.2.2.1
  have hP0 := hP
  obtain ⟨⟨f1, f2, f3, f4, f5, f6, f7⟩, h56, h57, hk, hp⟩ := hP
  have bad : ∀ σ', zOnly z87 σ σ' → mvN A p j b k = 0 → ∃ x, some (Sum.inl (0 : Int32)) = (some (.inl x) : Option zV) ∧ K x σ' := fun σ' ho e => ⟨_, rfl, by
    have := hK σ' ho (fun q => by omega)
    rw [e] at this
    exact this⟩
  have main : mv1 A j b k = true → zE true (d + 5) 0 0 M_X12_movesBy 38 [some (.inr (.inr (54, 0))), some (.inl 0), some (.inl 0), none] [] σ (fun r σ' => ∃ x, r = some (.inl x) ∧ K x σ') := fun e1 =>
    L_X12_mv38 (d := d) (Q := fun r σ' => ∃ x, r = some (.inl x) ∧ K x σ') hW hR hP0 (fun q σ' ho => bad σ' ho (mvN_0 (fun z => by rw [z.2.1] at q; cases q))) (fun e2 σ' ho h87 => L_X12_mv133 (Q := fun r σ' => ∃ x, r = some (.inl x) ∧ K x σ') (b := b) hW (hR.only ho (fun c k hb => by unfold zBM at hb; omega)) (fun m hm c hc => by rw [ho.l 75 0 _ (by omega), ho.l 76 0 _ (by omega)]; exact hL m hm c hc) (hP0.only ho (by omega)) hg e2 h87 (fun q => bad σ' ho (mvN_0 (fun z => by rw [z.2.2.1] at q; cases q))) (fun e3 => L_X12_mv240 (Q := fun r σ' => ∃ x, r = some (.inl x) ∧ K x σ') (b := b) hW (hR.only ho (fun c k hb => by unfold zBM at hb; omega)) (hP0.only ho (by omega)) e2 h87 (fun q => bad σ' ho (mvN_0 (fun z => q z.2.2.2))) (fun e4 => ⟨_, rfl, by
      have := hK σ' ho (fun _ => h87)
      rw [show mvN A p j b k = mvC A p j k (aN A) from if_pos ⟨e1, e2, e3, e4⟩] at this
      exact this⟩) (aN A) 0 (by omega) (fun _ => rfl)) (aM A) 0 (by omega) rfl) (aN A) 0 (by omega) σ zOnly.rf (fun t ht => absurd ht (Nat.not_lt_zero t)) rfl
  refine zC_intro pl_X12 (Nat.le_of_ble_eq_true rfl) (T_X12_movesBy_0 ?_)
  have c0 : (iI b < 0) ↔ b < 0 := by rw [show (0 : Int32) = iI 0 from rfl, iI_lt (by omega) (by omega)]
  rw [f2, c0]
  refine ⟨fun g => main (by unfold mv1; rw [decide_eq_true g]; rfl), fun g => ?_⟩
  obtain ⟨n, rfl⟩ : ∃ n : Nat, b = (n : Int) := ⟨b.toNat, by omega⟩
  have f8 := f7 (by omega)
  rw [Int.toNat_natCast] at f8
  obtain ⟨e1, e2⟩ := vMp hW hR (by omega) f8
  have i24 : vp_in (nI n) 24 := nI_in (by omega) (by omega)
  rw [iI_nat, nI_clamp (show n < 2 ^ 31 by omega), e1]
  refine ⟨i24, S_X12_turnedCell hW hR hP0.1 h57 hk e2 ?_⟩
  have e3 : nI (aMp A n).toNat = iI (aMp A n) := by
    rw [← iI_nat]
    congr 1
    omega
  rw [f2, iI_nat, nI_clamp (show n < 2 ^ 31 by omega), e1, e3]
  have rT : -9 ≤ tnC A k (aMp A j).toNat (aMp A n).toNat ∧ tnC A k (aMp A j).toNat (aMp A n).toNat < 64 := by
    rcases tnC_r hW k (aMp A j).toNat (aMp A n).toNat with q | ⟨c, q, q2, q3⟩ <;> omega
  have m1 : mv1 A j (n : Int) k = decide (tnC A k (aMp A j).toNat (aMp A n).toNat = aMp A n) := by
    unfold mv1
    rw [decide_eq_false (by omega), Int.toNat_natCast]
    rfl
  rw [iI_eqI (by omega) (by omega)]
  refine ⟨i24, fun g2 => main (by rw [m1, decide_eq_true (by omega)]), fun g2 => bad σ zOnly.rf (mvN_0 (fun z => ?_))⟩
  have z1 := z.1
  rw [m1, decide_eq_true_eq] at z1
  omega
end zMz
