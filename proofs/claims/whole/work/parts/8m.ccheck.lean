/-! groups, check (class) -/
section zCj
variable {d kc ks : Nat} {σ : zSt} {A : zAb} {Q : Option zV → zSt → Prop}
def ancB (A : zAb) (t : Nat) : Bool := decide (0 < aK A t)
theorem L_X1_anchors (hW : zWf A) (hR : zRD A σ 0) (hQ : Q (some (.inl (yset (fun t => decide (t < aN A) && ancB A t) 32))) σ) : ∀ (n k : Nat), k + n = aN A → zE true (d + 2) kc ks M_X1_anchors 4 [some (.inr (.inr (7, 0))), some (.inl (yset (fun t => decide (t < k) && ancB A t) 32)), some (.inl (nI k))] [] σ Q := by
  have hN : aN A ≤ 24 := hW.1.2.2.2.2.1
  intro n
  induction n with
  | zero =>
    intro k hk
    have : k = aN A := by omega
    subst this
    exact T_X1_anchors_4 ⟨fun _ => hQ, fun g => absurd (by rw [zrd_nT hR]; exact Int32.le_refl _) g⟩
  | succ n ih =>
    intro k hk
    have hkN : k < aN A := by omega
    obtain ⟨⟨n0, q0, hT⟩, -⟩ := hR.2.1 k hkN
    refine T_X1_anchors_4 ⟨fun g => ?_, fun _ => ⟨nI_in (by omega) (by omega), n0, by rw [nI_clamp (show k < 2 ^ 31 by omega)]; exact q0, S_X9_isAnchor hW hkN hT (fun x hx => ?_)⟩⟩
    · rw [zrd_nT hR, nI_leI (by omega) (by omega)] at g
      omega
    · have e : yset (fun t => decide (t < k) && ancB A t) 32 ||| x = yset (fun t => decide (t < k + 1) && ancB A t) 32 := yset_eq (fun i hi => by
        have ex : bt x i = (decide (i = k) && ancB A k) := by
          rw [hx]
          unfold ancB
          by_cases z : 0 < aK A k
          · rw [if_neg (by rw [zb_0]; exact fun q => q z), bt_bit (by omega), decide_eq_true z, Bool.and_true]
          · rw [if_pos (by rw [zb_0]; exact z), b_0, decide_eq_false z, Bool.and_false]
        rw [b_or, bt_set hi, ex]
        by_cases q : i = k
        · subst q; simp
        · simp [q, show (i < k + 1) = (i < k) from propext (by omega)])
      rw [e, ← nI_succ]
      exact ih (k + 1) (by omega)
theorem S_X1_anchors {K : Int32 → zSt → Prop} (hW : zWf A) (hR : zRD A σ 0) (hK : K (yset (fun t => decide (t < aN A) && ancB A t) 32) σ) : zCi true (d + 2) 0 0 M_X1_anchors [.inr (.inr (7, 0))] σ K := by
  refine zC_intro pl_X1 (Nat.le_of_ble_eq_true rfl) (T_X1_anchors_0 ?_)
  have e : (0 : Int32) = yset (fun t => decide (t < 0) && ancB A t) 32 := yset_eq (fun i hi => by rw [b_0]; simp)
  have := L_X1_anchors (d := d) (kc := 0) (ks := 0) (Q := fun r σ' => ∃ x, r = some (.inl x) ∧ K x σ') hW hR ⟨_, rfl, hK⟩ (aN A) 0 (by omega)
  rw [← e] at this
  exact this
theorem grB_pt {A : zAb} {t : Nat} (h : ¬ 0 < aK A t) : grB A t = ptB A (fun x => decide (aK A x = 0)) t := funext (fun u => Bool.eq_iff_iff.mpr (by
  rw [grB_iff, ptB_iff]
  unfold gr
  rw [if_neg h]
  have e : (fun x => aK A x = 0) = (fun x => decide (aK A x = 0) = true) := funext (fun x => by rw [decide_eq_true_eq])
  rw [e]))
theorem S_X1_groupOf {K : Int32 → zSt → Prop} (hW : zWf A) (hR : zRD A σ 0) {t : Nat} (ht : t < aN A) (hK : ∀ σ', zOnly z30 σ σ' → σ'.2.2.2 = σ.2.2.2 → (¬ 0 < aK A t → zLk A σ') → K (yset (grB A t) 32) σ') : zCi true (d + 4) 0 0 M_X1_groupOf [.inr (.inr (7, 0)), .inl (nI t)] σ K := by
  have hN : aN A ≤ 24 := hW.1.2.2.2.2.1
  obtain ⟨⟨n0, q0, hT⟩, -⟩ := hR.2.1 t ht
  refine zC_intro pl_X1 (Nat.le_of_ble_eq_true rfl) (T_X1_groupOf_0 ⟨nI_in (by omega) (by omega), n0, by rw [nI_clamp (show t < 2 ^ 31 by omega)]; exact q0, S_X9_isAnchor hW ht hT ⟨fun g => ?_, fun g => ⟨_, rfl, ?_⟩⟩⟩)
  · rw [zb_0] at g
    refine S_X1_link hW hR (fun σ1 o1 h1 l1 => ?_)
    have hR1 : zRD A σ1 0 := hR.only o1 h1 (fun c j k h => by unfold zBD at h; omega)
    refine S_X1_anchors hW hR1 ?_
    have e : yset (fun t => decide (t < aN A) && ancB A t) 32 ^^^ (-1) = yset (fun t => !(decide (t < aN A) && ancB A t)) 32 := yset_eq (fun i hi => by rw [bt_not _ hi, bt_set hi])
    rw [e]
    refine S_X1_spread hW hR1 l1 (w := fun x => decide (aK A x = 0)) ht (decide_eq_true (by omega)) (fun u hu => ?_) ⟨_, rfl, ?_⟩
    · unfold ancB
      rw [decide_eq_true hu, Bool.true_and, ← decide_not]
      exact decide_eq_decide.mpr (by omega)
    · rw [← grB_pt g]
      exact hK σ1 o1 h1 (fun _ => l1)
  · rw [zb_0, Decidable.not_not] at g
    have e : zishl 1 (nI t) = yset (grB A t) 32 := by
      rw [yset_one (by omega)]
      refine yset_cong (fun u hu => Bool.eq_iff_iff.mpr ?_)
      rw [grB_iff, decide_eq_true_eq]
      unfold gr
      rw [if_pos g]
    rw [e]
    exact hK σ zOnly.rf rfl (fun z => absurd g z)
theorem O_X11_group {K : Int32 → zSt → Prop} (hW : zWf A) (hR : zRD A σ 0) (a : Int32) (hno : ¬ tI A a = true → K 0 σ) (hyes : ∀ t, t < aN A → a = nI t → ∀ σ', zOnly z30 σ σ' → σ'.2.2.2 = σ.2.2.2 → K (yset (grB A t) 32) σ') : zCi true (d + 5) 0 0 M_X11_group [.inr (.inr (6, 0)), .inl (a)] σ K := by
  refine zC_intro pl_X11 (Nat.le_of_ble_eq_true rfl) (T_X11_group_0 (S_X1_isThing hW hR a ⟨fun h => ⟨_, rfl, hno (zb_0.mp h)⟩, fun h => ?_⟩))
  rw [zb_0, Decidable.not_not] at h
  obtain ⟨t, ht, rfl⟩ := tI_nI h
  exact S_X1_groupOf hW hR ht (fun σ' o1 h1 _ => ⟨_, rfl, hyes t ht rfl σ' o1 h1⟩)
theorem cMpD (hW : zWf A) (hR : zRD A σ 0) {t : Nat} (ht : t < aN A) : (zgi σ 25 0 t = -9) ↔ ¬ 0 ≤ aMp A t := by
  have r := aMp_r hW ht
  rw [(hR.2.1 t ht).2.2, show (-9 : Int32) = iI (-9) from rfl, iI_eqI (by omega) (by omega)]
  exact ⟨fun q => by omega, r.2.2⟩
theorem vMpD (hW : zWf A) (hR : zRD A σ 0) {t : Nat} (ht : t < aN A) (h : 0 ≤ aMp A t) : zgi σ 25 0 t = nI (aMp A t).toNat ∧ (aMp A t).toNat < 64 := by
  have r := (aMp_r hW ht).1
  rw [(hR.2.1 t ht).2.2]
  refine ⟨?_, by omega⟩
  rw [← iI_nat]
  congr 1
  omega
theorem L_X1_onMap (hW : zWf A) (hR : zRD A σ 0) (hQ : Q (some (.inl (yset (fun t => decide (t < aN A) && decide (0 ≤ aMp A t)) 32))) σ) : ∀ (n k : Nat), k + n = aN A → zE true (d + 1) kc ks M_X1_thingsOnMap 4 [some (.inr (.inr (7, 0))), some (.inl (yset (fun t => decide (t < k) && decide (0 ≤ aMp A t)) 32)), some (.inl (nI k))] [] σ Q := by
  have hN : aN A ≤ 24 := hW.1.2.2.2.2.1
  intro n
  induction n with
  | zero =>
    intro k hk
    have : k = aN A := by omega
    subst this
    exact T_X1_thingsOnMap_4 ⟨fun _ => hQ, fun g => absurd (by rw [zrd_nT hR]; exact Int32.le_refl _) g⟩
  | succ n ih =>
    intro k hk
    have hkN : k < aN A := by omega
    refine T_X1_thingsOnMap_4 ⟨fun g => ?_, fun _ => ⟨nI_in (by omega) (by omega), fun x hx => ?_⟩⟩
    · rw [zrd_nT hR, nI_leI (by omega) (by omega)] at g
      omega
    · rw [nI_clamp (show k < 2 ^ 31 by omega)] at hx
      have e : yset (fun t => decide (t < k) && decide (0 ≤ aMp A t)) 32 ||| x = yset (fun t => decide (t < k + 1) && decide (0 ≤ aMp A t)) 32 := yset_eq (fun i hi => by
        have ex : bt x i = (decide (i = k) && decide (0 ≤ aMp A k)) := by
          rw [hx]
          by_cases z : 0 ≤ aMp A k
          · rw [if_neg (fun q => (cMpD hW hR hkN).mp q z), bt_bit (by omega), decide_eq_true z, Bool.and_true]
          · rw [if_pos ((cMpD hW hR hkN).mpr z), b_0, decide_eq_false z, Bool.and_false]
        rw [b_or, bt_set hi, ex]
        by_cases q : i = k
        · subst q; simp
        · simp [q, show (i < k + 1) = (i < k) from propext (by omega)])
      rw [e, ← nI_succ]
      exact ih (k + 1) (by omega)
theorem S_X1_thingsOnMap {K : Int32 → zSt → Prop} (hW : zWf A) (hR : zRD A σ 0) (hK : K (yset (fun t => decide (t < aN A) && decide (0 ≤ aMp A t)) 32) σ) : zCi true (d + 1) 0 0 M_X1_thingsOnMap [.inr (.inr (7, 0))] σ K := by
  refine zC_intro pl_X1 (Nat.le_of_ble_eq_true rfl) (T_X1_thingsOnMap_0 ?_)
  have e : (0 : Int32) = yset (fun t => decide (t < 0) && decide (0 ≤ aMp A t)) 32 := yset_eq (fun i hi => by rw [b_0]; simp)
  have := L_X1_onMap (d := d) (kc := 0) (ks := 0) (Q := fun r σ' => ∃ x, r = some (.inl x) ∧ K x σ') hW hR ⟨_, rfl, hK⟩ (aN A) 0 (by omega)
  rw [← e] at this
  exact this
theorem L_X1_untold (hW : zWf A) (hR : zRD A σ 0) (hQ : Q (some (.inl (iI (zfst (ck1 A) (aN A))))) σ) : ∀ (n k : Nat), k + n = aN A → (∀ i, i < k → ck1 A i = false) → zE true (d + 3) kc ks M_X1_firstUntold 2 [some (.inr (.inr (7, 0))), some (.inl (nI k))] [] σ Q := by
  have hN : aN A ≤ 24 := hW.1.2.2.2.2.1
  intro n
  induction n with
  | zero =>
    intro k hk h
    have : k = aN A := by omega
    subst this
    rw [zfst_none.mpr h] at hQ
    exact T_X1_firstUntold_2 ⟨fun _ => hQ, fun g => absurd (by rw [zrd_nT hR]; exact Int32.le_refl _) g⟩
  | succ n ih =>
    intro k hk h
    have hkN : k < aN A := by omega
    have i24 : vp_in (nI k) 24 := nI_in (by omega) (by omega)
    have step : ck1 A k = false → zE true (d + 3) kc ks M_X1_firstUntold 2 [some (.inr (.inr (7, 0))), some (.inl ((nI k + 1)))] [] σ Q := fun z => by
      rw [← nI_succ]
      exact ih (k + 1) (by omega) (fun i hi => by
        by_cases e : i = k
        · subst e; exact z
        · exact h i (by omega))
    refine T_X1_firstUntold_2 ⟨fun g => ?_, fun _ => ⟨i24, ?_⟩⟩
    · rw [zrd_nT hR, nI_leI (by omega) (by omega)] at g
      omega
    · rw [nI_clamp (show k < 2 ^ 31 by omega), cMpD hW hR hkN]
      refine ⟨fun z => step ?_, fun z => S_X1_toldCells hW hR hkN ⟨i24, ?_⟩⟩
      · unfold ck1
        rw [decide_eq_false z]; rfl
      · have z1 := Decidable.not_not.mp z
        obtain ⟨e1, e2⟩ := vMpD hW hR hkN z1
        rw [e1, zh_b e2, zb_0]
        refine ⟨fun q => step ?_, fun q => ?_⟩
        · unfold ck1
          rw [Decidable.not_not.mp q]; simp
        · have hck : ck1 A k = true := by unfold ck1; rw [decide_eq_true z1, Bool.eq_false_iff.mpr q]; rfl
          rw [zfst_some hck h hkN, iI_nat] at hQ
          exact hQ
theorem L_X1_crowded (hW : zWf A) (hR : zRD A σ 0) (hQ : Q (some (.inl (iI (zfst (ck2 A) (aN A))))) σ) : ∀ (n k : Nat), k + n = aN A → (∀ i, i < k → ck2 A i = false) → zE true (d + 2) kc ks M_X1_firstCrowded 4 [some (.inr (.inr (7, 0))), some (.inr (.inl (zset (fun c => aAny (fun u => decide (0 ≤ aMp A u) && decide (aMp A u = (c : Int))) k) 64))), none, some (.inl (nI k))] [] σ Q := by
  have hN : aN A ≤ 24 := hW.1.2.2.2.2.1
  intro n
  induction n with
  | zero =>
    intro k hk h
    have : k = aN A := by omega
    subst this
    rw [zfst_none.mpr h] at hQ
    exact T_X1_firstCrowded_4 ⟨fun _ => hQ, fun g => absurd (by rw [zrd_nT hR]; exact Int32.le_refl _) g⟩
  | succ n ih =>
    intro k hk h
    have hkN : k < aN A := by omega
    have i24 : vp_in (nI k) 24 := nI_in (by omega) (by omega)
    have step : ck2 A k = false → zE true (d + 2) kc ks M_X1_firstCrowded 4 [some (.inr (.inr (7, 0))), some (.inr (.inl (zset (fun c => aAny (fun u => decide (0 ≤ aMp A u) && decide (aMp A u = (c : Int))) (k + 1)) 64))), none, some (.inl ((nI k + 1)))] [] σ Q := fun z => by
      rw [← nI_succ]
      exact ih (k + 1) (by omega) (fun i hi => by
        by_cases e : i = k
        · subst e; exact z
        · exact h i (by omega))
    refine T_X1_firstCrowded_4 ⟨fun g => ?_, fun _ => ⟨i24, ?_⟩⟩
    · rw [zrd_nT hR, nI_leI (by omega) (by omega)] at g
      omega
    · rw [nI_clamp (show k < 2 ^ 31 by omega), cMpD hW hR hkN]
      refine ⟨fun z => ?_, fun z => ⟨i24, ?_⟩⟩
      · have e : zset (fun c => aAny (fun u => decide (0 ≤ aMp A u) && decide (aMp A u = (c : Int))) k) 64 = zset (fun c => aAny (fun u => decide (0 ≤ aMp A u) && decide (aMp A u = (c : Int))) (k + 1)) 64 := zset_cong (fun c hc => by
          rw [aAny, decide_eq_false z, Bool.false_and, Bool.or_false])
        rw [e]
        refine step ?_
        unfold ck2
        rw [decide_eq_false z]; rfl
      · have z1 := Decidable.not_not.mp z
        obtain ⟨e1, e2⟩ := vMpD hW hR hkN z1
        have ec : ((aMp A k).toNat : Int) = aMp A k := by omega
        rw [e1, zh_b e2, zb_0, ec]
        have hck : ck2 A k = aAny (fun u => decide (0 ≤ aMp A u) && decide (aMp A u = aMp A k)) k := by
          unfold ck2
          rw [decide_eq_true z1, Bool.true_and]
        refine ⟨fun q => ⟨i24, ?_⟩, fun q => ?_⟩
        · have e : zset (fun c => aAny (fun u => decide (0 ≤ aMp A u) && decide (aMp A u = (c : Int))) k) 64 ||| zlshl 1 (nI (aMp A k).toNat) = zset (fun c => aAny (fun u => decide (0 ≤ aMp A u) && decide (aMp A u = (c : Int))) (k + 1)) 64 := zset_eq (fun c hc => by
            rw [tb_or, tb_set hc, tb_bit e2, aAny, decide_eq_true z1, Bool.true_and]
            congr 1
            exact decide_eq_decide.mpr (by omega))
          rw [e]
          refine step ?_
          rw [hck]
          simpa using q
        · have q1 := Decidable.not_not.mp q
          rw [zfst_some (hck.trans q1) h hkN, iI_nat] at hQ
          exact hQ
theorem L_X4_broken (hW : zWf A) (hR : zRD A σ 0) (hG : zGr σ) (hS : ∀ m, m < aM A → zSp A σ m) (hQ : Q (some (.inl (iI (zfst (ck3 A) (aM A))))) σ) : ∀ (n k : Nat), k + n = aM A → (∀ i, i < k → ck3 A i = false) → zE true (d + 3) kc ks M_X4_firstBroken 2 [some (.inr (.inr (9, 0))), some (.inl (nI k)), none, none, none] [] σ Q := by
  have hN : aN A ≤ 24 := hW.1.2.2.2.2.1
  have hM : aM A ≤ 60 := hW.1.2.2.2.2.2.1
  intro n
  induction n with
  | zero =>
    intro k hk h
    have : k = aM A := by omega
    subst this
    rw [zfst_none.mpr h] at hQ
    exact T_X4_firstBroken_2 ⟨fun _ => hQ, fun g => absurd (by rw [zrd_nM hR]; exact Int32.le_refl _) g⟩
  | succ n ih =>
    intro k hk h
    have hkM : k < aM A := by omega
    obtain ⟨n0, q0, hMe⟩ := hR.2.2.1 k hkM
    obtain ⟨w1, w2, w3, w4, -⟩ := hW.2.2.1 k hkM
    have step : ck3 A k = false → zE true (d + 3) kc ks M_X4_firstBroken 2 [some (.inr (.inr (9, 0))), some (.inl ((nI k + 1))), none, none, none] [] σ Q := fun z => by
      rw [← nI_succ]
      exact ih (k + 1) (by omega) (fun i hi => by
        by_cases e : i = k
        · subst e; exact z
        · exact h i (by omega))
    refine T_X4_firstBroken_2 ⟨fun g => ?_, fun _ => ⟨nI_in (by omega) (by omega), n0, by rw [nI_clamp (show k < 2 ^ 31 by omega)]; exact q0, ?_⟩⟩
    · rw [zrd_nM hR, nI_leI (by omega) (by omega)] at g
      omega
    · rw [hMe.2.2.2.1, hMe.2.2.2.2.1, nI_clamp (show mA A k < 2 ^ 31 by omega), nI_clamp (show mB A k < 2 ^ 31 by omega), hR.1.2.2.2.2.2.2.1, zh_b (by omega), zb_0, decide_eq_true hkM, Bool.true_and, cMpD hW hR w2, cMpD hW hR w3]
      refine ⟨nI_in (by omega) (by omega), nI_in (by omega) (by omega), fun z => step ?_, fun z => ?_⟩
      · unfold ck3
        rcases z with z | z | z
        · rw [Bool.not_eq_true] at z
          rw [z]; rfl
        · rw [decide_eq_false z]; simp
        · rw [show decide (0 ≤ aMp A (mB A k)) = false from decide_eq_false z]; simp
      · have z0 : mO A k = true := Decidable.not_not.mp (fun q => z (Or.inl q))
        have z1 : 0 ≤ aMp A (mA A k) := Decidable.not_not.mp (fun q => z (Or.inr (Or.inl q)))
        have z2 : 0 ≤ aMp A (mB A k) := Decidable.not_not.mp (fun q => z (Or.inr (Or.inr q)))
        obtain ⟨e1, e2⟩ := vMpD hW hR w2 z1
        obtain ⟨e3, e4⟩ := vMpD hW hR w3 z2
        obtain ⟨c1, p1, p2, p3⟩ := (aMp_r hW w2).2.1 z1
        obtain ⟨c2, p4, p5, p6⟩ := (aMp_r hW w3).2.1 z2
        have ek : kept A k (aMp A (mA A k)).toNat (aMp A (mB A k)).toNat = mKeep A k (aMp A (mA A k)).toNat (aMp A (mB A k)).toNat := by
          unfold kept
          rw [p1, p4, Int.toNat_natCast, Int.toNat_natCast, p3, p6]; rfl
        have e5 : ck3 A k = !mKeep A k (aMp A (mA A k)).toNat (aMp A (mB A k)).toNat := by
          unfold ck3
          rw [z0, decide_eq_true z1, decide_eq_true z2, ek]; rfl
        rw [e1, e3]
        refine S_X4_isKept hW hG hkM hMe (hS k hkM) e2 e4 ?_
        rw [zb_0]
        refine ⟨fun q => step ?_, fun q => ?_⟩
        · rw [e5, Decidable.not_not.mp q]; rfl
        · rw [Bool.not_eq_true] at q
          rw [zfst_some (e5.trans (by rw [q]; rfl)) h hkM, iI_nat] at hQ
          exact hQ
theorem S_X1_firstUntold {K : Int32 → zSt → Prop} (hW : zWf A) (hR : zRD A σ 0) (hK : K (iI (zfst (ck1 A) (aN A))) σ) : zCi true (d + 3) 0 0 M_X1_firstUntold [.inr (.inr (7, 0))] σ K :=
  zC_intro pl_X1 (Nat.le_of_ble_eq_true rfl) (T_X1_firstUntold_0 (L_X1_untold hW hR ⟨_, rfl, hK⟩ (aN A) 0 (by omega) (fun i hi => absurd hi (Nat.not_lt_zero i))))
theorem S_X1_firstCrowded {K : Int32 → zSt → Prop} (hW : zWf A) (hR : zRD A σ 0) (hK : K (iI (zfst (ck2 A) (aN A))) σ) : zCi true (d + 2) 0 0 M_X1_firstCrowded [.inr (.inr (7, 0))] σ K := by
  have e0 : (0 : Int64) = zset (fun c => aAny (fun u => decide (0 ≤ aMp A u) && decide (aMp A u = (c : Int))) 0) 64 := zset_eq (fun i hi => by rw [tb_0]; rfl)
  have := L_X1_crowded (d := d) (kc := 0) (ks := 0) (Q := fun r σ' => ∃ x, r = some (.inl x) ∧ K x σ') hW hR ⟨_, rfl, hK⟩ (aN A) 0 (by omega) (fun i hi => absurd hi (Nat.not_lt_zero i))
  rw [← e0] at this
  exact zC_intro pl_X1 (Nat.le_of_ble_eq_true rfl) (T_X1_firstCrowded_0 this)
theorem S_X4_firstBroken {K : Int32 → zSt → Prop} (hW : zWf A) (hR : zRD A σ 0) (hG : zGr σ) (hS : ∀ m, m < aM A → zSp A σ m) (hK : K (iI (zfst (ck3 A) (aM A))) σ) : zCi true (d + 3) 0 0 M_X4_firstBroken [.inr (.inr (9, 0))] σ K :=
  zC_intro pl_X4 (Nat.le_of_ble_eq_true rfl) (T_X4_firstBroken_0 (L_X4_broken hW hR hG hS ⟨_, rfl, hK⟩ (aM A) 0 (by omega) (fun i hi => absurd hi (Nat.not_lt_zero i))))
theorem O_X11_check {K : Int32 → zSt → Prop} (hW : zWf A) (hR : zRD A σ 0) (hC : zCR A σ) (hK : ∀ σ', zOnly zQr σ σ' → σ'.2.2.2 = σ.2.2.2 → zCR A σ' → K (iI (ckV A)) σ') : zCi true (d + 7) 0 0 M_X11_check [.inr (.inr (6, 0))] σ K := by
  have hN : aN A ≤ 24 := hW.1.2.2.2.2.1
  have hM : aM A ≤ 60 := hW.1.2.2.2.2.2.1
  have fle : ∀ (p : Nat → Bool) (n : Nat), n ≤ 64 → zfst p n = -9 ∨ (0 ≤ zfst p n ∧ zfst p n < 64) := fun p n hn => by
    by_cases q : ∃ i, i < n ∧ p i = true
    · obtain ⟨i, h1, h2, h3⟩ := fb_first (p := fun i => p i = true) q
      rw [zfst_some h2 (fun j hj => by simpa using h3 j hj) h1]
      omega
    · exact Or.inl (zfst_none.mpr (fun i hi => by
        by_cases z : p i = true
        · exact absurd ⟨i, hi, z⟩ q
        · simpa using z))
  have m9 : ∀ z : Int, (z = -9 ∨ (0 ≤ z ∧ z < 64)) → ((iI z = -9) ↔ ¬ 0 ≤ z) := fun z hz => by
    rw [show (-9 : Int32) = iI (-9) from rfl, iI_eqI (by omega) (by omega)]
    omega
  have f1 := fle (ck1 A) (aN A) (by omega)
  have f2 := fle (ck2 A) (aN A) (by omega)
  have f3 := fle (ck3 A) (aM A) (by omega)
  have g41 : ∀ w : Int, ¬ 0 ≤ zfst (ck1 A) (aN A) → (w = -9 ∨ (0 ≤ w ∧ w < 64)) → ((0 ≤ w ↔ (aAl A = true ∧ 0 ≤ zfst (ck2 A) (aN A))) ∧ (0 ≤ w → w = zfst (ck2 A) (aN A))) → zE true (d + 7) 0 0 M_X11_check 41 [some (.inr (.inr (6, 0))), none] [.inl (iI w)] σ (fun r σ' => ∃ x, r = some (.inl x) ∧ K x σ') := fun w n1 hw hw2 => by
    refine T_X11_check_41 ?_
    rw [m9 w hw]
    refine ⟨fun n2 => S_X11_makeReady hW hR hC (fun σ1 o1 h1 c1 y1 _ => ?_), fun n2 => ⟨_, rfl, ?_⟩⟩
    · have hR1 : zRD A σ1 0 := hR.only o1 h1 (fun c j k h => by unfold zBD at h; unfold zQr; omega)
      refine S_X4_firstBroken hW hR1 c1.1 y1.1 (fun x hx => ⟨_, rfl, ?_⟩)
      have fin := hK σ1 o1 h1 c1
      unfold ckV at fin
      rw [if_neg n1, if_neg (fun q => n2 (hw2.1.mpr q))] at fin
      rw [hx]
      by_cases z : 0 ≤ zfst (ck3 A) (aM A)
      · rw [if_neg (fun q => (m9 _ f3).mp q z), show (-20 : Int32) = iI (-20) from rfl, iI_sub]
        rw [if_pos z] at fin
        exact fin
      · rw [if_pos ((m9 _ f3).mpr z)]
        rw [if_neg z] at fin
        exact fin
    · have n3 := Decidable.not_not.mp n2
      have fin := hK σ zOnly.rf rfl hC
      unfold ckV at fin
      rw [if_neg n1, if_pos (hw2.1.mp n3), ← hw2.2 n3] at fin
      rw [show (-200 : Int32) = iI (-200) from rfl, iI_sub]
      exact fin
  refine zC_intro pl_X11 (Nat.le_of_ble_eq_true rfl) (T_X11_check_0 (S_X1_firstUntold hW hR ?_))
  rw [m9 _ f1, hR.1.2.2.2.2.2.2.2.2, zb_0]
  refine ⟨fun n1 => ⟨fun n2 => ?_, fun n2 => ?_⟩, fun n1 => ⟨_, rfl, ?_⟩⟩
  · exact g41 (-9) n1 (Or.inl rfl) ⟨⟨fun q => by omega, fun q => absurd q.1 n2⟩, fun q => by omega⟩
  · exact S_X1_firstCrowded hW hR (g41 _ n1 f2 ⟨⟨fun q => ⟨Decidable.not_not.mp n2, q⟩, fun q => q.2⟩, fun _ => rfl⟩)
  · have n2 := Decidable.not_not.mp n1
    have fin := hK σ zOnly.rf rfl hC
    unfold ckV at fin
    rw [if_pos n2] at fin
    rw [show (-100 : Int32) = iI (-100) from rfl, iI_sub]
    exact fin
end zCj
