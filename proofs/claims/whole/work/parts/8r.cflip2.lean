/-! flips (class): whether a part can turn -/
section zCo
variable {d kc ks : Nat} {σ : zSt} {A : zAb} {Q : Option zV → zSt → Prop}
theorem S_X2_cellAfter {K : Int32 → zSt → Prop} (hW : zWf A) (hR : zRD A σ 0) {p : Nat → Bool} {j k t : Nat} (ht : t < aN A) (h50 : p t = true → zgi σ 50 0 t = iI (tnT A j k t)) (hK : K (iI (cTh A p j k t)) σ) : zCi true (d + 2) 0 0 M_X2_cellAfter [.inr (.inr (12, 0)), .inl (yset p 32), .inl (nI t)] σ K := by
  have hN : aN A ≤ 24 := hW.1.2.2.2.2.1
  have i24 : vp_in (nI t) 24 := nI_in (by omega) (by omega)
  refine zC_intro pl_X2 (Nat.le_of_ble_eq_true rfl) (T_X2_cellAfter_0 ⟨fun _ => i24, fun _ => i24, fun x hx => ⟨_, rfl, ?_⟩⟩)
  have ex : x = iI (cTh A p j k t) := by
    rw [hx, nI_clamp (show t < 2 ^ 31 by omega)]
    unfold cTh
    by_cases z : p t = true
    · rw [if_neg (by rw [yh_b (by omega), zb_0]; exact fun q => q z), if_pos z, h50 z]
    · rw [if_pos (by rw [yh_b (by omega), zb_0]; exact z), if_neg z, (hR.2.1 t ht).2.2]
  rw [ex]
  exact hK
theorem S_X2_leaves {K : Int32 → zSt → Prop} (hW : zWf A) (hR : zRD A σ 0) (hX : zXT σ) {j k : Nat} {b : Int} (hk : k < 8) (hj : j < aN A) (hmj : 0 ≤ aMp A j) (hb : -1 ≤ b ∧ b < aN A) (hmb : 0 ≤ b → 0 ≤ aMp A b.toNat) (hK : K (zb (mv1 A j b k = true)) σ) : zCi true (d + 3) 0 0 M_X2_leaves [.inr (.inr (12, 0)), .inl (nI k), .inl (nI j), .inl (iI (if 0 ≤ b then b else -9))] σ K := by
  have hN : aN A ≤ 24 := hW.1.2.2.2.2.1
  have c9 : (iI (if 0 ≤ b then b else -9) = -9) ↔ b < 0 := by
    by_cases z : 0 ≤ b
    · rw [if_pos z, show (-9 : Int32) = iI (-9) from rfl, iI_eqI (by omega) (by omega)]; omega
    · rw [if_neg z]; exact ⟨fun _ => by omega, fun _ => rfl⟩
  refine zC_intro pl_X2 (Nat.le_of_ble_eq_true rfl) (T_X2_leaves_0 ?_)
  rw [c9]
  refine ⟨fun g => ⟨_, rfl, ?_⟩, fun g => ?_⟩
  · have e : zb (mv1 A j b k = true) = 1 := by rw [zb_1]; unfold mv1; rw [decide_eq_true g]; rfl
    rw [e] at hK
    exact hK
  · obtain ⟨n, rfl⟩ : ∃ n : Nat, b = (n : Int) := ⟨b.toNat, by omega⟩
    have hmn := hmb (by omega)
    rw [Int.toNat_natCast] at hmn
    have hn : n < aN A := by omega
    obtain ⟨e1, e2⟩ := vMpD hW hR hj hmj
    obtain ⟨e3, e4⟩ := vMpD hW hR hn hmn
    obtain ⟨x, x1, x2, x3⟩ := (aMp_r hW hn).2.1 hmn
    have i1 : vp_in (nI j) 24 := nI_in (by omega) (by omega)
    have i2 : vp_in (nI n) 24 := nI_in (by omega) (by omega)
    rw [if_pos (by omega : (0 : Int) ≤ (n : Int)), iI_nat, nI_clamp (show j < 2 ^ 31 by omega), nI_clamp (show n < 2 ^ 31 by omega), e1, e3]
    refine ⟨i1, i2, S_X2_turnedCell hX hk e2 e4 ⟨i2, fun y hy => ⟨_, rfl, ?_⟩⟩⟩
    have ey : y = zb (mv1 A j (n : Int) k = true) := by
      rw [hy]
      apply zb_of0
      have rr : -9 ≤ tnD k (aMp A j).toNat (aMp A n).toNat ∧ tnD k (aMp A j).toNat (aMp A n).toNat < 64 := by
        rcases tnD_r k (aMp A j).toNat (aMp A n).toNat with q | ⟨z, q, q2⟩ <;> omega
      have en : nI (aMp A n).toNat = iI ((x : Nat) : Int) := by rw [iI_nat]; congr 1; omega
      rw [e3, en, iI_eqI (by omega) (by omega), tnD_C hW x3]
      unfold mv1 tnT
      rw [decide_eq_false (by omega : ¬ (n : Int) < 0), Bool.false_or, decide_eq_true_eq, Int.toNat_natCast, x1]
    rw [ey]
    exact hK
theorem L_X2_keeping (hW : zWf A) (hR : zRD A σ 0) (hG : zGr σ) (hS : ∀ m, m < aM A → zSp A σ m) {p : Nat → Bool} {j k : Nat} {b : Int} (hp : ∀ t, p t = true → t < aN A ∧ 0 ≤ aMp A t) (hmj : 0 ≤ aMp A j) (hmb : 0 ≤ b → 0 ≤ aMp A b.toNat) (hg : hgB A p j b = true) (h2 : aAny (mv2 A p j k) (aN A) = false) (h50 : ∀ t, t < aN A → p t = true → zgi σ 50 0 t = iI (tnT A j k t)) (hQ : Q (some (.inl (zb (aAny (mv3 A p j k) (aM A) = false)))) σ) : ∀ (n i : Nat), i + n = aM A → aAny (mv3 A p j k) i = false → zE true (d + 3) kc ks M_X2_isKeeping 2 [some (.inr (.inr (12, 0))), some (.inl (yset p 32)), some (.inl (nI i)), none] [] σ Q := by
  have hN : aN A ≤ 24 := hW.1.2.2.2.2.1
  have hM : aM A ≤ 60 := hW.1.2.2.2.2.2.1
  intro n
  induction n with
  | zero =>
    intro i hi h
    have : i = aM A := by omega
    subst this
    rw [zb_t h] at hQ
    exact T_X2_isKeeping_2 ⟨fun _ => hQ, fun g => absurd (by rw [zrd_nM hR]; exact Int32.le_refl _) g⟩
  | succ n ih =>
    intro i hi h
    have him : i < aM A := by omega
    obtain ⟨n0, q0, hMe⟩ := hR.2.2.1 i him
    obtain ⟨w1, w2, w3, w4, -⟩ := hW.2.2.1 i him
    have qa := hMe.2.2.2.1
    have qb := hMe.2.2.2.2.1
    have stay : mv3 A p j k i = false → zE true (d + 3) kc ks M_X2_isKeeping 2 [some (.inr (.inr (12, 0))), some (.inl (yset p 32)), some (.inl ((nI i + 1))), none] [] σ Q := fun q => by
      rw [← nI_succ]
      exact ih (i + 1) (by omega) (by rw [aAny, h, q]; rfl)
    refine T_X2_isKeeping_2 ⟨fun g => ?_, fun _ => ⟨nI_in (by omega) (by omega), n0, by rw [nI_clamp (show i < 2 ^ 31 by omega)]; exact q0, ?_⟩⟩
    · rw [zrd_nM hR, nI_leI (by omega) (by omega)] at g
      omega
    · rw [qa, qb, hR.1.2.2.2.2.2.2.1, zh_b (by omega), yh_b (by omega), yh_b (by omega), zb_0, zb_0, zb_0, decide_eq_true him, Bool.true_and]
      refine ⟨fun g => stay ?_, fun g => ?_⟩
      · unfold mv3
        rcases g with g | ⟨g1, g2⟩
        · rw [Bool.not_eq_true] at g
          rw [g]; rfl
        · rw [Bool.not_eq_true] at g1 g2
          rw [g1, g2]; simp
      · have g1 : mO A i = true := Decidable.not_not.mp (fun q => g (Or.inl q))
        have g2 : p (mA A i) = true ∨ p (mB A i) = true := by
          by_cases z : p (mA A i) = true
          · exact Or.inl z
          · exact Or.inr (Decidable.not_not.mp (fun q => g (Or.inr ⟨z, q⟩)))
        obtain ⟨m1, m2⟩ := hg_map hp hmj hmb hg him g1 g2
        obtain ⟨c1, e1, l1⟩ := cTh_r hW (k := k) h2 w2 (Or.inr m1)
        obtain ⟨c2, e2, l2⟩ := cTh_r hW (k := k) h2 w3 (Or.inr m2)
        have cc : ∀ t c : Nat, t < aN A → (p t = true ∨ 0 ≤ aMp A t) → cTh A p j k t = (c : Int) → acell A c = true := fun t c ht hh e => by
          unfold cTh at e
          by_cases z : p t = true
          · rw [if_pos z] at e
            unfold tnT at e
            rcases tnC_r hW k (aMp A j).toNat (aMp A t).toNat with q | ⟨x, q, q2, q3⟩
            · omega
            · have : x = c := by omega
              rw [← this]; exact q3
          · rw [if_neg z] at e
            obtain ⟨x, q, q2, q3⟩ := (aMp_r hW ht).2.1 (hh.resolve_left z)
            have : x = c := by omega
            rw [← this]; exact q3
        have a1 := cc _ _ w2 (Or.inr m1) e1
        have a2 := cc _ _ w3 (Or.inr m2) e2
        refine T_X2_isKeeping_61 ?_
        rw [qa]
        refine S_X2_cellAfter (j := j) (k := k) hW hR w2 (h50 _ w2) ?_
        rw [qb]
        refine S_X2_cellAfter (j := j) (k := k) hW hR w3 (h50 _ w3) ?_
        rw [e1, e2, iI_nat, iI_nat]
        have e3 : mv3 A p j k i = !mKeep A i c1 c2 := by
          unfold mv3 kept
          rw [e1, e2, Int.toNat_natCast, Int.toNat_natCast, g1, Bool.true_and, (Bool.or_eq_true _ _).mpr g2, Bool.true_and, a1, a2]; rfl
        refine S_X4_isKept hW hG him hMe (hS i him) l1 l2 ?_
        rw [zb_0]
        refine ⟨fun g3 => stay ?_, fun g3 => ?_⟩
        · rw [e3, Decidable.not_not.mp g3]; rfl
        · rw [Bool.not_eq_true] at g3
          have hx : aAny (mv3 A p j k) (aM A) = true := aAny_iff.mpr ⟨i, him, by rw [e3, g3]; rfl⟩
          rw [zb_f (by rw [hx]; decide)] at hQ
          exact hQ
/-- cells taken: by things out of the part, by things of the part below k -/
def tkO (A : zAb) (p : Nat → Bool) (n c : Nat) : Bool := aAny (fun u => !p u && (decide (0 ≤ aMp A u) && decide (aMp A u = (c : Int)))) n
def tkI (A : zAb) (p : Nat → Bool) (j k n c : Nat) : Bool := aAny (fun u => p u && decide (tnT A j k u = (c : Int))) n
def tkA (A : zAb) (p : Nat → Bool) (j k i c : Nat) : Bool := tkO A p (aN A) c || tkI A p j k i c
theorem L_X2_alone5 (hW : zWf A) (hR : zRD A σ 0) {p : Nat → Bool} (hnext : zE true (d + 3) kc ks M_X2_isAlone 67 [some (.inr (.inr (12, 0))), none, some (.inr (.inl (zset (tkO A p (aN A)) 64))), none, some (.inl (yset p 32)), none] [] σ Q) : ∀ (n i : Nat), i + n = aN A → zE true (d + 3) kc ks M_X2_isAlone 5 [some (.inr (.inr (12, 0))), some (.inl (yset p 32)), some (.inr (.inl (zset (tkO A p i) 64))), none, some (.inl (nI i)), none] [] σ Q := by
  have hN : aN A ≤ 24 := hW.1.2.2.2.2.1
  intro n
  induction n with
  | zero =>
    intro i hi
    have : i = aN A := by omega
    subst this
    exact T_X2_isAlone_5 ⟨fun _ => hnext, fun g => absurd (by rw [zrd_nT hR]; exact Int32.le_refl _) g⟩
  | succ n ih =>
    intro i hi
    have hiN : i < aN A := by omega
    have i24 : vp_in (nI i) 24 := nI_in (by omega) (by omega)
    refine T_X2_isAlone_5 ⟨fun g => ?_, fun _ => ?_⟩
    · rw [zrd_nT hR, nI_leI (by omega) (by omega)] at g
      omega
    · rw [nI_clamp (show i < 2 ^ 31 by omega), yh_b (by omega), zb_0, cMpD hW hR hiN, Decidable.not_not, ← nI_succ]
      refine ⟨fun _ => i24, fun g => ?_, fun g => ⟨i24, ?_⟩⟩
      · have e : zset (tkO A p i) 64 = zset (tkO A p (i + 1)) 64 := zset_cong (fun c hc => by
          unfold tkO
          rw [aAny]
          rcases g with g | g
          · rw [g]; simp
          · rw [decide_eq_false g]; simp)
        rw [e]
        exact ih (i + 1) (by omega)
      · have g1 : p i = false := by
          by_cases z : p i = true
          · exact absurd (Or.inl z) g
          · simpa using z
        have g2 : 0 ≤ aMp A i := Decidable.not_not.mp (fun q => g (Or.inr q))
        obtain ⟨e1, e2⟩ := vMpD hW hR hiN g2
        rw [e1]
        have e : zset (tkO A p i) 64 ||| zlshl 1 (nI (aMp A i).toNat) = zset (tkO A p (i + 1)) 64 := zset_eq (fun c hc => by
          rw [tb_or, tb_set hc, tb_bit e2]
          unfold tkO
          rw [aAny, g1, Bool.not_false, Bool.true_and, decide_eq_true g2, Bool.true_and]
          congr 1
          exact decide_eq_decide.mpr (by omega))
        rw [e]
        exact ih (i + 1) (by omega)
theorem L_X2_alone67 (hW : zWf A) {p : Nat → Bool} {j k : Nat} (hp : ∀ t, p t = true → t < aN A) (h2 : aAny (mv2 A p j k) (aN A) = false) (h50 : ∀ t, t < aN A → p t = true → zgi σ 50 0 t = iI (tnT A j k t)) (hQ : Q (some (.inl (zb (aAny (fun t => aAny (mv4 A p j k t) (aN A)) (aN A) = false)))) σ) : ∀ (n i : Nat), i + n = 32 → (∀ t, t < i → p t = true → (∀ u, u < aN A → p u = false → ¬ aMp A u = tnT A j k t) ∧ ∀ u, u < t → p u = true → ¬ tnT A j k u = tnT A j k t) → zE true (d + 3) kc ks M_X2_isAlone 67 [some (.inr (.inr (12, 0))), none, some (.inr (.inl (zset (tkA A p j k i) 64))), none, some (.inl (yab p i)), none] [] σ Q := by
  have hN : aN A ≤ 24 := hW.1.2.2.2.2.1
  intro n
  induction n with
  | zero =>
    intro i hi h
    have : i = 32 := by omega
    subst this
    refine T_X2_isAlone_67 ⟨fun _ => ?_, fun g => absurd (yab_32 p) g⟩
    have e : aAny (fun t => aAny (mv4 A p j k t) (aN A)) (aN A) = false := aAny_f.mpr (fun t ht => aAny_f.mpr (fun u hu => by
      unfold mv4
      by_cases z : p t = true
      · by_cases e : u = t
        · rw [decide_eq_true e]; rfl
        · obtain ⟨h3, h4⟩ := h t (by omega) z
          have : ¬ cTh A p j k u = tnT A j k t := by
            unfold cTh
            by_cases y : p u = true
            · rw [if_pos y]
              by_cases l : u < t
              · exact h4 u l y
              · have := (h u (by omega) y).2 t (by omega) z
                exact fun q => this q.symm
            · rw [if_neg y]
              exact h3 u hu (by simpa using y)
          rw [decide_eq_false this, Bool.and_false]
      · rw [Bool.not_eq_true] at z
        rw [z]; simp))
    rw [zb_t e] at hQ
    exact hQ
  | succ n ih =>
    intro i hi h
    by_cases z : p i = true
    · obtain ⟨y1, y2, y3⟩ := yab_low (show i < 32 by omega) z
      have hiN := hp i z
      obtain ⟨c, e1, l1⟩ := cTh_r hW (k := k) h2 hiN (Or.inl z)
      have e2 : tnT A j k i = (c : Int) := by
        unfold cTh at e1
        rw [if_pos z] at e1
        exact e1
      refine T_X2_isAlone_67 ⟨fun q => absurd q y2, fun _ => ?_⟩
      rw [y1, y3, nI_clamp (show i < 2 ^ 31 by omega), h50 i hiN z, e2, iI_nat, zh_b l1, zb_0]
      refine ⟨nI_in (by omega) (by omega), fun g => ?_, fun g => ?_⟩
      · have e : zset (tkA A p j k i) 64 ||| zlshl 1 (nI c) = zset (tkA A p j k (i + 1)) 64 := zset_eq (fun x hx => by
          rw [tb_or, tb_set hx, tb_bit l1]
          unfold tkA
          rw [Bool.or_assoc]
          congr 1
          unfold tkI
          rw [aAny, z, Bool.true_and]
          congr 1
          exact decide_eq_decide.mpr (by omega))
        rw [e]
        refine ih (i + 1) (by omega) (fun t ht hz => ?_)
        by_cases et : t = i
        · subst et
          rw [Bool.not_eq_true] at g
          unfold tkA at g
          rw [Bool.or_eq_false_iff] at g
          obtain ⟨g1, g2⟩ := g
          refine ⟨fun u hu hpu q => ?_, fun u hu hpu q => ?_⟩
          · have := aAny_f.mp g1 u hu
            rw [hpu, Bool.not_false, Bool.true_and, q, e2, decide_eq_true (by omega), decide_eq_true rfl] at this
            cases this
          · have := aAny_f.mp g2 u hu
            rw [hpu, Bool.true_and, q, e2, decide_eq_true rfl] at this
            cases this
        · exact h t (by omega) hz
      · have g1 := Decidable.not_not.mp g
        unfold tkA at g1
        rw [Bool.or_eq_true] at g1
        have hx : aAny (fun t => aAny (mv4 A p j k t) (aN A)) (aN A) = true := by
          refine aAny_iff.mpr ⟨i, hiN, aAny_iff.mpr ?_⟩
          rcases g1 with g1 | g1
          · obtain ⟨u, hu, hz⟩ := aAny_iff.mp g1
            rw [Bool.and_eq_true, Bool.and_eq_true, decide_eq_true_eq, decide_eq_true_eq, Bool.not_eq_true'] at hz
            refine ⟨u, hu, ?_⟩
            have ne : ¬ u = i := fun q => by rw [q, z] at hz; exact absurd hz.1 (by decide)
            unfold mv4 cTh
            rw [decide_eq_false ne, z, if_neg (by rw [hz.1]; decide), hz.2.2, e2, decide_eq_true rfl]; rfl
          · obtain ⟨u, hu, hz⟩ := aAny_iff.mp g1
            rw [Bool.and_eq_true, decide_eq_true_eq] at hz
            refine ⟨u, by omega, ?_⟩
            unfold mv4 cTh
            rw [decide_eq_false (by omega : ¬ u = i), z, if_pos hz.1, hz.2, e2, decide_eq_true rfl]; rfl
        rw [zb_f (by rw [hx]; decide)] at hQ
        exact hQ
    · rw [Bool.not_eq_true] at z
      rw [yab_skip z]
      have e : zset (tkA A p j k i) 64 = zset (tkA A p j k (i + 1)) 64 := zset_cong (fun x hx => by
        unfold tkA
        congr 1
        unfold tkI
        rw [aAny, z, Bool.false_and, Bool.or_false])
      rw [e]
      exact ih (i + 1) (by omega) (fun t ht hz => by
        by_cases et : t = i
        · subst et; rw [z] at hz; cases hz
        · exact h t (by omega) hz)
theorem S_X2_isAlone {K : Int32 → zSt → Prop} (hW : zWf A) (hR : zRD A σ 0) {p : Nat → Bool} {j k : Nat} (hp : ∀ t, p t = true → t < aN A) (h2 : aAny (mv2 A p j k) (aN A) = false) (h50 : ∀ t, t < aN A → p t = true → zgi σ 50 0 t = iI (tnT A j k t)) (hK : K (zb (aAny (fun t => aAny (mv4 A p j k t) (aN A)) (aN A) = false)) σ) : zCi true (d + 3) 0 0 M_X2_isAlone [.inr (.inr (12, 0)), .inl (yset p 32)] σ K := by
  refine zC_intro pl_X2 (Nat.le_of_ble_eq_true rfl) (T_X2_isAlone_0 ?_)
  have e0 : (0 : Int64) = zset (tkO A p 0) 64 := zset_eq (fun i hi => by rw [tb_0]; rfl)
  have e1 : zset (tkO A p (aN A)) 64 = zset (tkA A p j k 0) 64 := zset_cong (fun c hc => (Bool.or_false _).symm)
  have l2 := L_X2_alone67 (d := d) (kc := 0) (ks := 0) (Q := fun r σ' => ∃ x, r = some (.inl x) ∧ K x σ') hW hp h2 h50 ⟨_, rfl, hK⟩ 32 0 rfl (fun t ht => absurd ht (Nat.not_lt_zero t))
  rw [← e1, ← yab_0] at l2
  have := L_X2_alone5 hW hR l2 (aN A) 0 (by omega)
  rw [← e0] at this
  exact this
theorem S_X2_isKeeping {K : Int32 → zSt → Prop} (hW : zWf A) (hR : zRD A σ 0) (hG : zGr σ) (hS : ∀ m, m < aM A → zSp A σ m) {p : Nat → Bool} {j k : Nat} {b : Int} (hp : ∀ t, p t = true → t < aN A ∧ 0 ≤ aMp A t) (hmj : 0 ≤ aMp A j) (hmb : 0 ≤ b → 0 ≤ aMp A b.toNat) (hg : hgB A p j b = true) (h2 : aAny (mv2 A p j k) (aN A) = false) (h50 : ∀ t, t < aN A → p t = true → zgi σ 50 0 t = iI (tnT A j k t)) (hK : K (zb (aAny (mv3 A p j k) (aM A) = false)) σ) : zCi true (d + 3) 0 0 M_X2_isKeeping [.inr (.inr (12, 0)), .inl (yset p 32)] σ K :=
  zC_intro pl_X2 (Nat.le_of_ble_eq_true rfl) (T_X2_isKeeping_0 (L_X2_keeping (b := b) hW hR hG hS hp hmj hmb hg h2 h50 ⟨_, rfl, hK⟩ (aM A) 0 (by omega) rfl))
end zCo
