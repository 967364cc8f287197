/-! the reference: pairs of members, staying -/
/-- the reference has the group's members in its row -/
def zGm (A : zAb) (σ : zSt) (t : Nat) : Prop := zgi σ 54 0 37 = nI (gn A t) ∧ ∀ i, i < gn A t → zgi σ 81 0 i = nI (mbr A t i)
theorem zGm.only {A : zAb} {σ σ' : zSt} {t : Nat} {M : Nat → Nat → Nat → Prop} (h : zGm A σ t) (ho : zOnly M σ σ') (hm : ¬ M 54 0 37 ∧ ∀ k, ¬ M 81 0 k) : zGm A σ' t := ⟨by rw [ho.i 54 0 37 hm.1]; exact h.1, fun i hi => by rw [ho.i 81 0 i (hm.2 i)]; exact h.2 i hi⟩
def zPr (A : zAb) (σ : zSt) (t : Nat) : Prop := ∀ i j, i < j → j < gn A t → ∀ c, c < 64 → ∀ e, e < 64 → tb (zgl σ 83 0 (64 * (9 * i + j) + c)) e = prK A t i j c e
theorem zPr.only {A : zAb} {σ σ' : zSt} {t : Nat} {M : Nat → Nat → Nat → Prop} (h : zPr A σ t) (ho : zOnly M σ σ') (hm : ∀ k, ¬ M 83 0 k) : zPr A σ' t := fun i j hij hj c hc e he => by rw [ho.l 83 0 _ (hm _)]; exact h i j hij hj c hc e he
/-- a row of pairs at work: at the pair (i, j), the measure m, the cell c -/
noncomputable def pwB (A : zAb) (t i j m c : Nat) (i' j' c' e : Nat) : Bool :=
  if i' < i ∨ (i' = i ∧ j' < j) then prK A t i' j' c' e else if i' = i ∧ j' = j then prN A (mbr A t i) (mbr A t j) (if c' < c then m + 1 else m) c' e else true
theorem pwB_at (A : zAb) (t i j m c c' e : Nat) : pwB A t i j m c i j c' e = prN A (mbr A t i) (mbr A t j) (if c' < c then m + 1 else m) c' e := by
  unfold pwB
  rw [if_neg (by omega), if_pos ⟨rfl, rfl⟩]
def zPw (A : zAb) (σ : zSt) (t i j m c : Nat) : Prop := ∀ i' j', i' < j' → j' < gn A t → ∀ c', c' < 64 → ∀ e, e < 64 → tb (zgl σ 83 0 (64 * (9 * i' + j') + c')) e = pwB A t i j m c i' j' c' e
theorem prN_succ (A : zAb) (a b n c e : Nat) : prN A a b (n + 1) c e = (prN A a b n c e && !bdM A a b c e n) := by
  unfold prN
  rw [aAny, Bool.not_or]
section zMo
variable {d kc ks : Nat} {σ : zSt} {A : zAb} {Q : Option zV → zSt → Prop}
theorem e649 (i j c : Nat) : (64 : Int32) * (9 * nI i + nI j) + nI c = nI (64 * (9 * i + j) + c) := by
  rw [show (9 : Int32) = nI 9 from rfl, nI_mul, nI_add, show (64 : Int32) = nI 64 from rfl, nI_mul, nI_add]
theorem L_X12_pair133 (hW : zWf A) {σ0 : zSt} (hR : zRM A σ0) (hL : ∀ m, m < aM A → zLd A σ0 m) {t i j m : Nat} (ht : t < aN A) (h9 : gn A t ≤ 9) (hij : i < j) (hj : j < gn A t) (hm : m < aM A) {v4 v5 : Int32} (h4 : v4 = zb (mA A m = mbr A t i ∧ mB A m = mbr A t j)) (h5 : v5 = zb (mB A m = mbr A t i ∧ mA A m = mbr A t j)) (hnext : ∀ σ', zOnly (fun c _ _ => c = 83) σ0 σ' → zPw A σ' t i j (m + 1) 0 → zE true (d + 1) kc ks M_X12_layPairs 48 [some (.inr (.inr (54, 0))), some (.inl (nI i)), some (.inl (nI j)), some (.inl (nI (m + 1))), none, none, none] [] (σ') Q) : ∀ (n c : Nat), c + n = 64 → ∀ σ : zSt, zOnly (fun c _ _ => c = 83) σ0 σ → zPw A σ t i j m c → zE true (d + 1) kc ks M_X12_layPairs 133 [some (.inr (.inr (54, 0))), some (.inl (nI i)), some (.inl (nI j)), some (.inl (nI m)), some (.inl (v4)), some (.inl (v5)), some (.inl (nI c))] [] σ Q := by
  have hM : aM A ≤ 60 := hW.1.2.2.2.2.2.1
  have i60 : vp_in (nI m) 60 := nI_in (by omega) (by omega)
  have mo := (hR.2.2.1 m hm).2.2.2.2.2
  have hfin : ∀ σ, zOnly (fun c _ _ => c = 83) σ0 σ → zPw A σ t i j m 64 → zE true (d + 1) kc ks M_X12_layPairs 48 [some (.inr (.inr (54, 0))), some (.inl (nI i)), some (.inl (nI j)), some (.inl ((nI m + 1))), none, none, none] [] σ Q := by
    intro σ ho hw
    rw [← nI_succ]
    refine hnext σ ho (fun i' j' hi hj' c' hc' e he => ?_)
    rw [hw i' j' hi hj' c' hc' e he]
    unfold pwB
    rw [if_pos hc', if_neg (Nat.not_lt_zero c')]
  intro n
  induction n with
  | zero =>
    intro c hc σ ho hw
    have : c = 64 := by omega
    subst this
    exact T_X12_layPairs_133 ⟨fun g => absurd (show (64 : Int32) ≤ nI 64 by decide) g, fun _ => hfin σ ho hw, fun g => absurd (Or.inl (show (64 : Int32) ≤ nI 64 by decide)) g⟩
  | succ n ih =>
    intro c hc σ ho hw
    have c64 : ¬ (64 : Int32) ≤ nI c := fun g => by
      rw [show (64 : Int32) = nI 64 from rfl, nI_leI (by omega) (by omega)] at g
      omega
    refine T_X12_layPairs_133 ⟨fun _ => i60, fun g => ?_, fun g => T_X12_layPairs_159 ?_⟩
    · rw [nI_clamp (show m < 2 ^ 31 by omega), ho.i 68 0 m (by omega), mo, zb_0, h4, h5, zb_0, zb_0] at g
      refine hfin σ ho (fun i' j' hi hj' c' hc' e he => ?_)
      rw [hw i' j' hi hj' c' hc' e he]
      unfold pwB
      by_cases z : i' < i ∨ (i' = i ∧ j' < j)
      · rw [if_pos z, if_pos z]
      · rw [if_neg z, if_neg z]
        by_cases z2 : i' = i ∧ j' = j
        · rw [if_pos z2, if_pos z2, if_pos hc']
          have hb : bdM A (mbr A t i) (mbr A t j) c' e m = false := by
            unfold bdM
            rcases g with g | g | g
            · exact absurd g c64
            · rw [Bool.not_eq_true] at g
              rw [g, Bool.false_and]
            · have e1 : (decide (mA A m = mbr A t i) && decide (mB A m = mbr A t j)) = false := Bool.eq_false_iff.mpr (fun q => g.1 (by rw [Bool.and_eq_true, decide_eq_true_eq, decide_eq_true_eq] at q; exact q))
              have e2 : (decide (mB A m = mbr A t i) && decide (mA A m = mbr A t j)) = false := Bool.eq_false_iff.mpr (fun q => g.2 (by rw [Bool.and_eq_true, decide_eq_true_eq, decide_eq_true_eq] at q; exact q))
              rw [e1, e2]
              simp
          have : prN A (mbr A t i) (mbr A t j) (m + 1) c' e = prN A (mbr A t i) (mbr A t j) m c' e := by rw [prN_succ, hb]; simp
          rw [this]
          split <;> first | rw [this] | rfl
        · rw [if_neg z2, if_neg z2]
    · rw [nI_clamp (show m < 2 ^ 31 by omega), ho.i 68 0 m (by omega), mo, zb_0, h4, h5, zb_0, zb_0] at g
      have gm : mO A m = true := Decidable.not_not.mp (fun z => g (Or.inr (Or.inl z)))
      rw [e649, e64, nI_clamp (show 64 * (9 * i + j) + c < 2 ^ 31 by omega), nI_clamp (show 64 * m + c < 2 ^ 31 by omega), ← nI_succ]
      have v1 : vp_in (nI (64 * (9 * i + j) + c)) 5184 := nI_in (by omega) (by omega)
      have v2 : vp_in (nI (64 * m + c)) 3840 := nI_in (by omega) (by omega)
      refine ⟨v1, fun _ => v2, fun _ => v2, fun x hx => ⟨v1, ih (c + 1) (by omega) _ (ho.tr (zOnly.sl rfl)) (fun i' j' hi hj' c' hc' e he => ?_)⟩⟩
      have hx2 : ∀ e, e < 64 → tb x e = !bdM A (mbr A t i) (mbr A t j) c e m := by
        intro e he
        rw [hx, h4]
        by_cases z : mA A m = mbr A t i ∧ mB A m = mbr A t j
        · rw [if_neg (by rw [zb_0]; exact fun q => q z), ho.l 75 0 _ (by omega), (hL m hm c (by omega)).1, tb_set he]
          unfold bdM
          have hne : ¬ (mB A m = mbr A t i) := fun q => by
            have := mbr_inj (A := A) (t := t) (by omega) hj (q.symm.trans z.2)
            omega
          rw [gm, decide_eq_false hne, decide_eq_true z.1, decide_eq_true z.2]
          simp
        · have z2 : mB A m = mbr A t i ∧ mA A m = mbr A t j := by
            by_cases q : mB A m = mbr A t i ∧ mA A m = mbr A t j
            · exact q
            · exact absurd (Or.inr (Or.inr ⟨z, q⟩)) g
          rw [if_pos (by rw [zb_0]; exact z), ho.l 76 0 _ (by omega), (hL m hm c (by omega)).2, tb_set he]
          unfold bdM
          have hne : ¬ (mA A m = mbr A t i) := fun q => by
            have := mbr_inj (A := A) (t := t) (by omega) hj (q.symm.trans z2.2)
            omega
          rw [gm, decide_eq_false hne, decide_eq_true z2.1, decide_eq_true z2.2]
          simp
      have hw2 := hw i' j' hi hj' c' hc' e he
      rw [zgl_sl]
      by_cases z2 : i' = i ∧ j' = j
      · obtain ⟨rfl, rfl⟩ := z2
        by_cases zc : c' = c
        · subst zc
          rw [if_pos ⟨rfl, rfl, rfl⟩, tb_and, hw2, hx2 e he, pwB_at, pwB_at, if_neg (Nat.lt_irrefl c'), if_pos (Nat.lt_succ_self c'), prN_succ]
        · rw [if_neg (by omega), hw2, pwB_at, pwB_at]
          by_cases l : c' < c
          · rw [if_pos l, if_pos (by omega)]
          · rw [if_neg l, if_neg (by omega)]
      · rw [if_neg (by omega), hw2]
        unfold pwB
        by_cases z : i' < i ∨ (i' = i ∧ j' < j)
        · rw [if_pos z, if_pos z]
        · rw [if_neg z, if_neg z, if_neg z2, if_neg z2]
theorem L_X12_pair48 (hW : zWf A) {σ0 : zSt} (hR : zRM A σ0) (hL : ∀ m, m < aM A → zLd A σ0 m) {t i j : Nat} (ht : t < aN A) (h9 : gn A t ≤ 9) (hG : zGm A σ0 t) (hij : i < j) (hj : j < gn A t) (hnext : ∀ σ', zOnly (fun c _ _ => c = 83) σ0 σ' → zPw A σ' t i (j + 1) 0 0 → zE true (d + 1) kc ks M_X12_layPairs 38 [some (.inr (.inr (54, 0))), some (.inl (nI i)), some (.inl (nI (j + 1))), none, none, none, none] [] (σ') Q) : ∀ (n m : Nat), m + n = aM A → ∀ σ : zSt, zOnly (fun c _ _ => c = 83) σ0 σ → zPw A σ t i j m 0 → zE true (d + 1) kc ks M_X12_layPairs 48 [some (.inr (.inr (54, 0))), some (.inl (nI i)), some (.inl (nI j)), some (.inl (nI m)), none, none, none] [] σ Q := by
  have hM : aM A ≤ 60 := hW.1.2.2.2.2.2.1
  have hN : aN A ≤ 24 := hW.1.2.2.2.2.1
  have bi := (mbr_ok (A := A) (t := t) (show i < gn A t by omega)).1
  have bj := (mbr_ok (A := A) (t := t) hj).1
  intro n
  induction n with
  | zero =>
    intro m hm σ ho hw
    have hR2 : zRM A σ := hR.only ho (fun c k hb => by unfold zBM at hb; omega)
    have : m = aM A := by omega
    subst this
    refine T_X12_layPairs_48 ⟨fun _ => ?_, fun h => absurd (by rw [hR2.1.2.2.2.1]; exact Int32.le_refl _) h⟩
    rw [← nI_succ]
    refine hnext σ ho (fun i' j' hi hj' c' hc' e he => ?_)
    rw [hw i' j' hi hj' c' hc' e he]
    unfold pwB
    by_cases z : i' < i ∨ (i' = i ∧ j' < j)
    · rw [if_pos z, if_pos (by omega)]
    · rw [if_neg z]
      by_cases z2 : i' = i ∧ j' = j
      · rw [if_pos z2, if_neg (Nat.not_lt_zero c'), if_pos (by omega), z2.1, z2.2]
        rfl
      · rw [if_neg z2, if_neg (by omega)]
        by_cases z3 : i' = i ∧ j' = j + 1
        · rw [if_pos z3, if_neg (Nat.not_lt_zero c')]
          rfl
        · rw [if_neg z3]
  | succ n ih =>
    intro m hm σ ho hw
    have hR2 : zRM A σ := hR.only ho (fun c k hb => by unfold zBM at hb; omega)
    have hG2 : zGm A σ t := hG.only ho ⟨by omega, fun k => by omega⟩
    have hmM : m < aM A := by omega
    obtain ⟨r1, r2, r3, r4, r5, r6⟩ := hR2.2.2.1 m hmM
    obtain ⟨w1, w2, w3, w4⟩ := hW.2.2.1 m hmM
    have i60 : vp_in (nI m) 60 := nI_in (by omega) (by omega)
    have ii : vp_in (nI i) 24 := nI_in (by omega) (by omega)
    have ij : vp_in (nI j) 24 := nI_in (by omega) (by omega)
    have cc : ∀ x y, x < aN A → y < aN A → (nI x = nI y ↔ x = y) := fun x y h1 h2 => nI_eq (by omega) (by omega)
    refine T_X12_layPairs_48 ⟨fun g => ?_, fun _ => ?_⟩
    · rw [hR2.1.2.2.2.1, nI_leI (by omega) (by omega)] at g
      omega
    · rw [nI_clamp (show m < 2 ^ 31 by omega), nI_clamp (show i < 2 ^ 31 by omega), nI_clamp (show j < 2 ^ 31 by omega), r2, r3, hG2.2 i (by omega), hG2.2 j hj]
      refine ⟨i60, ii, fun _ => i60, fun _ => ij, fun x hx => ⟨i60, ii, fun _ => i60, fun _ => ij, fun y hy => ?_⟩⟩
      have e4 : x = zb (mA A m = mbr A t i ∧ mB A m = mbr A t j) := by
        rw [hx]
        apply zb_of0
        rw [cc _ _ w2 bi, cc _ _ w3 bj, Decidable.not_and_iff_or_not]
      have e5 : y = zb (mB A m = mbr A t i ∧ mA A m = mbr A t j) := by
        rw [hy]
        apply zb_of0
        rw [cc _ _ w3 bi, cc _ _ w2 bj, Decidable.not_and_iff_or_not]
      exact L_X12_pair133 hW hR hL ht h9 hij hj hmM e4 e5 (fun σ' o1 w1 => ih (m + 1) (by omega) σ' o1 w1) 64 0 rfl σ ho hw
theorem L_X12_pair38 (hW : zWf A) {σ0 : zSt} (hR : zRM A σ0) (hL : ∀ m, m < aM A → zLd A σ0 m) {t i : Nat} (ht : t < aN A) (h9 : gn A t ≤ 9) (hG : zGm A σ0 t) (hi : i < gn A t) (hnext : ∀ σ', zOnly (fun c _ _ => c = 83) σ0 σ' → zPw A σ' t (i + 1) 0 0 0 → zE true (d + 1) kc ks M_X12_layPairs 26 [some (.inr (.inr (54, 0))), some (.inl (nI (i + 1))), none, none, none, none, none] [] (σ') Q) : ∀ (n j : Nat), j + n = gn A t → i < j → ∀ σ : zSt, zOnly (fun c _ _ => c = 83) σ0 σ → zPw A σ t i j 0 0 → zE true (d + 1) kc ks M_X12_layPairs 38 [some (.inr (.inr (54, 0))), some (.inl (nI i)), some (.inl (nI j)), none, none, none, none] [] σ Q := by
  have hN : aN A ≤ 24 := hW.1.2.2.2.2.1
  intro n
  induction n with
  | zero =>
    intro j hj hij σ ho hw
    have hG2 : zGm A σ t := hG.only ho ⟨by omega, fun k => by omega⟩
    have : j = gn A t := by omega
    subst this
    refine T_X12_layPairs_38 ⟨fun _ => ?_, fun h => absurd (by rw [hG2.1]; exact Int32.le_refl _) h⟩
    rw [← nI_succ]
    refine hnext σ ho (fun i' j' hi' hj' c' hc' e he => ?_)
    rw [hw i' j' hi' hj' c' hc' e he]
    unfold pwB
    by_cases z : i' < i ∨ (i' = i ∧ j' < gn A t)
    · rw [if_pos z, if_pos (by omega)]
    · rw [if_neg z, if_neg (by omega), if_neg (by omega)]
      by_cases z3 : i' = i + 1 ∧ j' = 0
      · omega
      · rw [if_neg z3]
  | succ n ih =>
    intro j hj hij σ ho hw
    have hG2 : zGm A σ t := hG.only ho ⟨by omega, fun k => by omega⟩
    refine T_X12_layPairs_38 ⟨fun g => ?_, fun _ => L_X12_pair48 hW hR hL ht h9 hG hij (by omega) (fun σ' o1 w1 => ih (j + 1) (by omega) (by omega) σ' o1 w1) (aM A) 0 (by omega) σ ho hw⟩
    rw [hG2.1, nI_leI (by omega) (by omega)] at g
    omega
theorem L_X12_pair26 (hW : zWf A) {σ0 : zSt} (hR : zRM A σ0) (hL : ∀ m, m < aM A → zLd A σ0 m) {t : Nat} (ht : t < aN A) (h9 : gn A t ≤ 9) (hG : zGm A σ0 t) (hQ : ∀ σ', zOnly (fun c _ _ => c = 83) σ0 σ' → zPr A σ' t → Q none σ') : ∀ (n i : Nat), i + n = gn A t → ∀ σ : zSt, zOnly (fun c _ _ => c = 83) σ0 σ → zPw A σ t i 0 0 0 → zE true (d + 1) kc ks M_X12_layPairs 26 [some (.inr (.inr (54, 0))), some (.inl (nI i)), none, none, none, none, none] [] σ Q := by
  have hN : aN A ≤ 24 := hW.1.2.2.2.2.1
  intro n
  induction n with
  | zero =>
    intro i hi σ ho hw
    have hG2 : zGm A σ t := hG.only ho ⟨by omega, fun k => by omega⟩
    have : i = gn A t := by omega
    subst this
    refine T_X12_layPairs_26 ⟨fun _ => hQ σ ho (fun i' j' hi' hj' c' hc' e he => ?_), fun h => absurd (by rw [hG2.1]; exact Int32.le_refl _) h⟩
    rw [hw i' j' hi' hj' c' hc' e he]
    unfold pwB
    rw [if_pos (by omega)]
  | succ n ih =>
    intro i hi σ ho hw
    have hG2 : zGm A σ t := hG.only ho ⟨by omega, fun k => by omega⟩
    refine T_X12_layPairs_26 ⟨fun g => ?_, fun _ => ?_⟩
    · rw [hG2.1, nI_leI (by omega) (by omega)] at g
      omega
    · rw [← nI_succ]
      refine L_X12_pair38 hW hR hL ht h9 hG (by omega) (fun σ' o1 w1 => ih (i + 1) (by omega) σ' o1 w1) (gn A t - (i + 1)) (i + 1) (by omega) (by omega) σ ho (fun i' j' hi' hj' c' hc' e he => ?_)
      rw [hw i' j' hi' hj' c' hc' e he]
      unfold pwB
      by_cases z : i' < i
      · rw [if_pos (Or.inl z), if_pos (Or.inl z)]
      · rw [if_neg (by omega), if_neg (by omega), if_neg (by omega)]
        by_cases z3 : i' = i ∧ j' = i + 1
        · rw [if_pos z3, if_neg (Nat.not_lt_zero c')]
          rfl
        · rw [if_neg z3]
theorem L_X12_pair2 (hW : zWf A) {σ0 : zSt} (hR : zRM A σ0) (hL : ∀ m, m < aM A → zLd A σ0 m) {t : Nat} (ht : t < aN A) (h9 : gn A t ≤ 9) (hG : zGm A σ0 t) (hQ : ∀ σ', zOnly (fun c _ _ => c = 83) σ0 σ' → zPr A σ' t → Q none σ') : ∀ (n k : Nat), k + n = 5184 → ∀ σ : zSt, zOnly (fun c _ _ => c = 83) σ0 σ → (∀ x, x < k → zgl σ 83 0 x = -1) → zE true (d + 1) kc ks M_X12_layPairs 2 [some (.inr (.inr (54, 0))), some (.inl (nI k)), none, none, none, none, none] [] σ Q := by
  intro n
  induction n with
  | zero =>
    intro k hk σ ho hz
    have : k = 5184 := by omega
    subst this
    refine T_X12_layPairs_2 ⟨fun _ => L_X12_pair26 hW hR hL ht h9 hG hQ (gn A t) 0 (by omega) σ ho (fun i' j' hi' hj' c' hc' e he => ?_), fun h => absurd (show (5184 : Int32) ≤ nI 5184 by decide) h⟩
    rw [hz _ (by omega), tb_m1 he]
    unfold pwB
    rw [if_neg (by omega), if_neg (by omega)]
  | succ n ih =>
    intro k hk σ ho hz
    refine T_X12_layPairs_2 ⟨fun g => ?_, fun _ => ?_⟩
    · rw [show (5184 : Int32) = nI 5184 from rfl, nI_leI (by omega) (by omega)] at g
      omega
    · rw [nI_clamp (show k < 2 ^ 31 by omega), ← nI_succ]
      refine ⟨nI_in (by omega) (by omega), ih (k + 1) (by omega) _ (ho.tr (zOnly.sl rfl)) (fun x hx => ?_)⟩
      rw [zgl_sl]
      by_cases e : x = k
      · rw [if_pos ⟨rfl, rfl, e⟩]
      · rw [if_neg (fun w => e w.2.2)]
        exact hz x (by omega)
theorem S_X12_layPairs {K : zSt → Prop} (hW : zWf A) (hR : zRM A σ) (hL : ∀ m, m < aM A → zLd A σ m) {t : Nat} (ht : t < aN A) (h9 : gn A t ≤ 9) (hG : zGm A σ t) (hK : ∀ σ', zOnly (fun c _ _ => c = 83) σ σ' → zPr A σ' t → K σ') : zCv true (d + 1) 0 0 M_X12_layPairs [.inr (.inr (54, 0))] σ K :=
  zC_intro pl_X12 (Nat.le_of_ble_eq_true rfl) (T_X12_layPairs_0 (L_X12_pair2 hW hR hL ht h9 hG (fun σ' h1 h2 => ⟨rfl, hK σ' h1 h2⟩) 5184 0 rfl σ zOnly.rf (fun x hx => absurd hx (Nat.not_lt_zero x))))
theorem L_X12_other4 (hW : zWf A) (hR : zRM A σ) {t c : Nat} (ht : t < aN A) (hc : c < 64) (hG : zGm A σ t) (hQ : Q (some (.inl (zb (shut A t c = true)))) σ) : ∀ (n k : Nat), k + n = aN A → ∀ v : Int32, v = zb (aAny (fun u => decide (0 < aK A u) && decide (aC A u = (c : Int)) && !grB A t u) k = true) → zE true (d + 1) kc ks M_X12_isOtherAnchorAt 4 [some (.inr (.inr (54, 0))), some (.inl (nI c)), some (.inl (v)), some (.inl (nI k))] [] σ Q := by
  have hN : aN A ≤ 24 := hW.1.2.2.2.2.1
  have gl := gn_le A t
  have gp := gn_pos ht
  intro n
  induction n with
  | zero =>
    intro k hk v hv
    have : k = aN A := by omega
    subst this
    subst hv
    exact T_X12_isOtherAnchorAt_4 ⟨fun _ => ⟨zb_01, hQ⟩, fun h => absurd (by rw [hR.1.2.2.1]; exact Int32.le_refl _) h⟩
  | succ n ih =>
    intro k hk v hv
    have hkN : k < aN A := by omega
    obtain ⟨q1, q2, -⟩ := hR.2.1 k hkN
    have hk2 := (hW.2.1 k hkN).1
    have i24 : vp_in (nI k) 24 := nI_in (by omega) (by omega)
    have b0 := (mbr_ok (A := A) (t := t) gp).1
    refine T_X12_isOtherAnchorAt_4 ⟨fun g => ?_, fun _ => ⟨fun _ => i24, fun _ _ => i24, fun _ _ _ _ => nI_in (c := 0) (by omega) (by omega), fun x hx => ?_⟩⟩
    · rw [hR.1.2.2.1, nI_leI (by omega) (by omega)] at g
      omega
    · rw [← nI_succ]
      refine ih (k + 1) (by omega) x ?_
      rw [hx]
      apply zb_of1
      have c1 : nI (aK A k) ≤ 0 ↔ aK A k ≤ 0 := nI_leI (b := 0) (by omega) (by omega)
      have c2 : (1 : Int32) < nI (gn A t) ↔ 1 < gn A t := nI_ltI (a := 1) (by omega) (by omega)
      have c3 : nI (mbr A t 0) = nI k ↔ mbr A t 0 = k := nI_eq (by omega) (by omega)
      rw [nI_clamp (show k < 2 ^ 31 by omega), q1, q2, hG.1, show (0 : Int32).toNatClampNeg = 0 from rfl, hG.2 0 gp, iI_cell hW hkN hc, c1, c2, c3, hv, zb_0, Decidable.not_not]
      rw [aAny, Bool.or_eq_true, Bool.and_eq_true, Bool.and_eq_true, decide_eq_true_eq, decide_eq_true_eq, Bool.not_eq_true']
      have hg : (grB A t k = false) ↔ ¬ gr A t k := by
        rw [← Bool.not_eq_true, grB_iff]
      rw [hg]
      by_cases z0 : 0 < aK A k
      · by_cases z : 1 < gn A t
        · have : ¬ gr A t k := fun q => by have := gr_anchor ht z q; omega
          simp [z, this, show ¬ aK A k ≤ 0 by omega, z0]
        · rw [gr_one ht (by omega) hkN]
          simp [z, show ¬ aK A k ≤ 0 by omega, z0]
      · simp [show aK A k = 0 by omega]
theorem S_X12_isOtherAnchorAt {K : Int32 → zSt → Prop} (hW : zWf A) (hR : zRM A σ) {t c : Nat} (ht : t < aN A) (hc : c < 64) (hG : zGm A σ t) (hK : K (zb (shut A t c = true)) σ) : zCi true (d + 1) 0 0 M_X12_isOtherAnchorAt [.inr (.inr (54, 0)), .inl (nI c)] σ K :=
  zC_intro pl_X12 (Nat.le_of_ble_eq_true rfl) (T_X12_isOtherAnchorAt_0 (L_X12_other4 hW hR ht hc hG ⟨_, rfl, hK⟩ (aN A) 0 (by omega) 0 rfl))
/-- the cells on which members stand -/
def zSs (σ : zSt) (s : Nat → Nat) (n : Nat) : Prop := ∀ i, i < n → zgi σ 82 0 i = nI (s i) ∧ s i < 64
theorem L_X12_stays29 (hW : zWf A) (hR : zRM A σ) {t e : Nat} {s : Nat → Nat} (he : e < gn A t) (h9 : gn A t ≤ 9) (hP : zPr A σ t) (hS : zSs σ s (e + 1)) (hQ : Q (some (.inl (zb ((!aAny (fun i => !prK A t i e (s i) (s e) || (aAl A && decide (s i = s e))) e) = true)))) σ) : ∀ (n k : Nat), k + n = e → ∀ v : Int32, v = zb ((!aAny (fun i => !prK A t i e (s i) (s e) || (aAl A && decide (s i = s e))) k) = true) → zE true (d + 2) kc ks M_X12_stays 29 [some (.inr (.inr (54, 0))), some (.inl (nI e)), some (.inl (nI (s e))), some (.inl (v)), some (.inl (nI k))] [] σ Q := by
  have hn : ∀ k, k ≤ e → aAny (fun i => !prK A t i e (s i) (s e) || (aAl A && decide (s i = s e))) k = true → aAny (fun i => !prK A t i e (s i) (s e) || (aAl A && decide (s i = s e))) e = true := fun k hk h => by
    obtain ⟨i, h1, h2⟩ := aAny_iff.mp h
    exact aAny_iff.mpr ⟨i, by omega, h2⟩
  intro n
  induction n with
  | zero =>
    intro k hk v hv
    have : k = e := by omega
    subst this
    subst hv
    exact T_X12_stays_29 ⟨fun _ => ⟨zb_01, hQ⟩, fun h => absurd (Int32.le_refl _) h⟩
  | succ n ih =>
    intro k hk v hv
    have sk := hS k (by omega)
    have se := hS e (by omega)
    refine T_X12_stays_29 ⟨fun g => ?_, fun _ => ⟨fun g => ?_, fun g => ?_⟩⟩
    · rw [nI_leI (by omega) (by omega)] at g
      omega
    · rw [hv, zb_0, Bool.not_eq_true', Bool.not_eq_false] at g
      have := hn k (by omega) g
      have e1 : v = zb ((!aAny (fun i => !prK A t i e (s i) (s e) || (aAl A && decide (s i = s e))) e) = true) := by
        rw [hv]
        exact zb_iff (by rw [g, this])
      rw [e1]
      exact ⟨zb_01, hQ⟩
    · rw [nI_clamp (show k < 2 ^ 31 by omega), sk.1, e649, nI_clamp (show 64 * (9 * k + e) + s k < 2 ^ 31 by omega), hR.1.2.2.2.2.2.1, ← nI_succ]
      refine ⟨nI_in (by omega) (by omega), nI_in (by omega) (by omega), fun _ _ => nI_in (by omega) (by omega), fun x hx => ih (k + 1) (by omega) x ?_⟩
      rw [hx]
      apply zb_of0
      rw [hv, zb_0, Decidable.not_not, Bool.not_eq_true', ] at g
      rw [zb_0, zb_0, zl_bit1 se.2, hP k e (by omega) he _ sk.2 _ se.2, nI_eq (by omega) (by omega)]
      rw [aAny, g, Bool.false_or, Bool.not_eq_true', Bool.not_eq_false, Bool.or_eq_true, Bool.and_eq_true, decide_eq_true_eq, Bool.not_eq_true', ← Bool.not_eq_true, Decidable.not_not]
theorem S_X12_stays {K : Int32 → zSt → Prop} (hW : zWf A) (hR : zRM A σ) {t e : Nat} {s : Nat → Nat} (ht : t < aN A) (he : e < gn A t) (h9 : gn A t ≤ 9) (hG : zGm A σ t) (hP : zPr A σ t) (hS : zSs σ s (e + 1)) (hK : K (zb (stB A t s e = true)) σ) : zCi true (d + 2) 0 0 M_X12_stays [.inr (.inr (54, 0)), .inl (nI e)] σ K := by
  have se := hS e (by omega)
  have go : ∀ x : Nat → Bool, stB A t s e = (!aAny (fun i => !prK A t i e (s i) (s e) || (aAl A && decide (s i = s e))) e) → zE true (d + 2) 0 0 M_X12_stays 29 [some (.inr (.inr (54, 0))), some (.inl (nI e)), some (.inl (nI (s e))), some (.inl 1), some (.inl 0)] [] σ (fun r σ' => ∃ x, r = some (.inl x) ∧ K x σ') := fun _ h => by
    rw [h] at hK
    exact L_X12_stays29 hW hR he h9 hP hS ⟨_, rfl, hK⟩ e 0 (by omega) 1 rfl
  refine zC_intro pl_X12 (Nat.le_of_ble_eq_true rfl) (T_X12_stays_0 ?_)
  rw [nI_clamp (show e < 2 ^ 31 by omega), se.1, hR.1.2.2.2.2.2.1, zb_0]
  refine ⟨nI_in (by omega) (by omega), fun g => go (fun _ => true) ?_, fun g => S_X12_isOtherAnchorAt hW hR ht se.2 hG ⟨fun g2 => go (fun _ => true) ?_, fun g2 => ⟨_, rfl, ?_⟩⟩⟩
  · rw [Bool.not_eq_true] at g
    unfold stB
    rw [g, Bool.false_and, Bool.not_false, Bool.true_and]
  · rw [zb_0, Bool.not_eq_true] at g2
    unfold stB
    rw [g2, Bool.and_false, Bool.not_false, Bool.true_and]
  · rw [zb_0, Decidable.not_not] at g2
    rw [Decidable.not_not] at g
    have : stB A t s e = false := by
      unfold stB
      rw [g, g2]
      simp
    rw [this] at hK
    exact hK
end zMo
