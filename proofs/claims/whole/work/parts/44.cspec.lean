/-! the class holds the desk: rows of its components by the number of the desk (0 the desk, 1 and 2 the images) -/
def yset (p : Nat → Bool) : Nat → Int32
  | 0 => 0
  | n + 1 => yset p n ||| (if p n = true then zishl 1 (nI n) else 0)
theorem bt_yset (p : Nat → Bool) : ∀ (n i : Nat), n ≤ 32 → bt (yset p n) i = (decide (i < n) && p i)
  | 0, i, _ => by simp [yset, b_0]
  | n + 1, i, h => by
    rw [yset, b_or, bt_yset p n i (by omega)]
    by_cases hp : p n = true
    · rw [if_pos hp, bt_bit (by omega)]
      by_cases e : i = n
      · subst e; simp [hp]
      · by_cases l : i < n
        · simp [l, e, show i < n + 1 by omega]
        · simp [l, e, show ¬ i < n + 1 by omega]
    · rw [if_neg hp, b_0]
      by_cases e : i = n
      · subst e; simp [hp]
      · by_cases l : i < n
        · simp [l, show i < n + 1 by omega]
        · simp [l, show ¬ i < n + 1 by omega]
theorem bt_set {p : Nat → Bool} {i : Nat} (h : i < 32) : bt (yset p 32) i = p i := by rw [bt_yset p 32 i (by omega)]; simp [h]
theorem yset_eq {p : Nat → Bool} {x : Int32} (h : ∀ i, i < 32 → bt x i = p i) : x = yset p 32 := b_ext (fun i hi => by rw [h i hi, bt_set hi])
theorem yset_cong {p q : Nat → Bool} (h : ∀ i, i < 32 → p i = q i) : yset p 32 = yset q 32 := yset_eq (fun i hi => by rw [bt_set hi, h i hi])
/-- a thing's object, a measure's object -/
def zTh (A : zAb) (σ : zSt) (n t : Nat) : Prop := n < zcn σ 16 ∧ zgi σ 16 n 0 = nI t ∧ zgi σ 16 n 1 = nI (aK A t) ∧ zgi σ 16 n 2 = iI (aC A t) ∧ zgi σ 16 n 3 = iI (aMo A t) ∧ zgi σ 16 n 4 = iI (aTi A t)
def zMe (A : zAb) (σ : zSt) (n m : Nat) : Prop := n < zcn σ 17 ∧ zgi σ 17 n 0 = nI m ∧ zgi σ 17 n 1 = nI (mK A m) ∧ zgi σ 17 n 2 = nI (mA A m) ∧ zgi σ 17 n 3 = nI (mB A m) ∧ zgi σ 17 n 4 = nI (mP A m) ∧ zgi σ 17 n 5 = nI (mQ A m)
def zRD (A : zAb) (σ : zSt) (j : Nat) : Prop :=
  (zgi σ 7 j 0 = nI (aW A) ∧ zgi σ 7 j 1 = nI (aH A) ∧ zgl σ 7 j 2 = zset (afree A) 64 ∧ zgi σ 7 j 3 = nI (aN A) ∧ zgi σ 7 j 7 = yset (fun t => decide (t < aN A) && aTr A t) 32 ∧ zgi σ 7 j 8 = nI (aM A) ∧ zgl σ 7 j 10 = zset (fun m => decide (m < aM A) && mO A m) 64 ∧ zgi σ 7 j 11 = nI (aV A) ∧ zgi σ 7 j 15 = zb (aAl A = true)) ∧
  (∀ t, t < aN A → (∃ n, zgr σ 23 j t = (16, n) ∧ zTh A σ n t) ∧ zgl σ 24 j t = zset (abox A t) 64 ∧ zgi σ 25 j t = iI (aMp A t)) ∧
  (∀ m, m < aM A → ∃ n, zgr σ 26 j m = (17, n) ∧ zMe A σ n m) ∧
  (∀ v, v < aV A → zgi σ 27 j v = nI (vF A v) ∧ zgi σ 28 j v = nI (vT A v) ∧ zgi σ 29 j v = nI (vR A v))
theorem nI_and7 : ∀ n, n < 64 → nI n &&& 7 = nI (n % 8) := by decide +kernel
theorem nI_shr3 : ∀ n, n < 64 → zishr (nI n) 3 = nI (n / 8) := by decide +kernel
theorem zin_i (a : Int32) {N : Nat} (hN : N < 2 ^ 30) : (0 ≤ a ∧ a ≤ nI N - 1) ↔ (0 ≤ a.toInt ∧ a.toInt < N) := by
  have e1 : (1 : Int32).toInt = 1 := rfl
  have eN : (nI N).toInt = (N : Int) := nI_toInt (by omega)
  rw [Int32.le_iff_toInt_le, Int32.le_iff_toInt_le, Int32.toInt_zero, fb_subI (by rw [eN, e1]; omega) (by rw [eN, e1]; omega), eN, e1]
  omega
theorem zin_k (a : Int32) {l h : Nat} (hl : l < 2 ^ 31) (hh : h < 2 ^ 31) : (nI l ≤ a ∧ a ≤ nI h) ↔ ((l : Int) ≤ a.toInt ∧ a.toInt ≤ h) := by
  rw [Int32.le_iff_toInt_le, Int32.le_iff_toInt_le, nI_toInt hl, nI_toInt hh]
theorem zrd_nT {A : zAb} {σ : zSt} {j : Nat} (h : zRD A σ j) : zgi σ 7 j 3 = nI (aN A) := h.1.2.2.2.1
theorem zrd_nM {A : zAb} {σ : zSt} {j : Nat} (h : zRD A σ j) : zgi σ 7 j 8 = nI (aM A) := h.1.2.2.2.2.2.1
theorem zrd_nV {A : zAb} {σ : zSt} {j : Nat} (h : zRD A σ j) : zgi σ 7 j 11 = nI (aV A) := h.1.2.2.2.2.2.2.2.1
theorem pl_X1 : plainName RX1 = true := by decide +kernel
theorem pl_X9 : plainName RX9 = true := by decide +kernel
theorem pl_X5 : plainName RX5 = true := by decide +kernel
theorem pl_X4 : plainName RX4 = true := by decide +kernel
theorem pl_X6 : plainName RX6 = true := by decide +kernel
theorem pl_X7 : plainName RX7 = true := by decide +kernel
theorem pl_X10 : plainName RX10 = true := by decide +kernel
theorem pl_X2 : plainName RX2 = true := by decide +kernel
theorem pl_X3 : plainName RX3 = true := by decide +kernel
theorem pl_X8 : plainName RX8 = true := by decide +kernel
theorem pl_X0 : plainName RX0 = true := by decide +kernel
section zD1
variable {d kc ks j : Nat} {σ : zSt} {A : zAb} {Q : Option zV → zSt → Prop}
theorem S_X1_isCell {ph : Bool} {K : Int32 → zSt → Prop} (hW : zWf A) (hR : zRD A σ j) (c : Int32) (hK : K (zb (acI A c = true)) σ) : zCi ph (d + 2) 0 0 M_X1_isCell [.inr (.inr (7, j)), .inl (c)] σ K := by
  refine zC_intro pl_X1 (Nat.le_of_ble_eq_true rfl) (T_X1_isCell_0 (fun y hy => ⟨_, rfl, ?_⟩))
  rw [hy, zb_of0 (P := acI A c = true) ?_]
  · exact hK
  · obtain ⟨⟨r1, r2, -⟩, -⟩ := hR
    obtain ⟨⟨w1, w2, w3, w4, -⟩, -⟩ := hW
    rw [r1, r2, zb_0, show (0 : Int32) = nI 0 from rfl, show (63 : Int32) = nI 63 from rfl, zin_k c (by omega) (by omega)]
    unfold acI acell
    simp only [Bool.and_eq_true, decide_eq_true_eq]
    by_cases h : (0 : Int) ≤ c.toInt ∧ c.toInt ≤ 63
    · have e := zI_of h.1
      have hn : c.toInt.toNat < 64 := by omega
      generalize c.toInt.toNat = n at e hn
      subst e
      rw [nI_toInt (by omega)] at h ⊢
      rw [nI_and7 n hn, nI_shr3 n hn, nI_leI (by omega) (by omega), nI_leI (by omega) (by omega)]
      omega
    · constructor
      · intro _ q
        apply h
        omega
      · intro _
        exact Or.inl (by simpa using h)
theorem S_X1_isThing {ph : Bool} {K : Int32 → zSt → Prop} (hW : zWf A) (hR : zRD A σ j) (a : Int32) (hK : K (zb (tI A a = true)) σ) : zCi ph (d + 2) 0 0 M_X1_isThing [.inr (.inr (7, j)), .inl (a)] σ K := by
  refine zC_intro pl_X1 (Nat.le_of_ble_eq_true rfl) (T_X1_isThing_0 ⟨_, rfl, ?_⟩)
  have hN : aN A ≤ 24 := hW.1.2.2.2.2.1
  rw [zrd_nT hR, zb_iff (R := tI A a = true) (by rw [zin_i a (by omega)]; simp [tI])]
  exact hK
theorem S_X1_isMeasure {ph : Bool} {K : Int32 → zSt → Prop} (hW : zWf A) (hR : zRD A σ j) (a : Int32) (hK : K (zb (mI A a = true)) σ) : zCi ph (d + 2) 0 0 M_X1_isMeasure [.inr (.inr (7, j)), .inl (a)] σ K := by
  refine zC_intro pl_X1 (Nat.le_of_ble_eq_true rfl) (T_X1_isMeasure_0 ⟨_, rfl, ?_⟩)
  have hN : aM A ≤ 60 := hW.1.2.2.2.2.2.1
  rw [zrd_nM hR, zb_iff (R := mI A a = true) (by rw [zin_i a (by omega)]; simp [mI])]
  exact hK
theorem S_X1_isMover {ph : Bool} {K : Int32 → zSt → Prop} (hW : zWf A) (hR : zRD A σ j) (a : Int32) (hK : K (zb (vI A a = true)) σ) : zCi ph (d + 2) 0 0 M_X1_isMover [.inr (.inr (7, j)), .inl (a)] σ K := by
  refine zC_intro pl_X1 (Nat.le_of_ble_eq_true rfl) (T_X1_isMover_0 ⟨_, rfl, ?_⟩)
  have hN : aV A ≤ 3 := hW.1.2.2.2.2.2.2
  rw [zrd_nV hR, zb_iff (R := vI A a = true) (by rw [zin_i a (by omega)]; simp [vI])]
  exact hK
theorem S_X9_isAnchor {ph : Bool} {K : Int32 → zSt → Prop} (hW : zWf A) {n t : Nat} (ht : t < aN A) (hT : zTh A σ n t) (hK : K (zb (0 < aK A t)) σ) : zCi ph (d + 1) 0 0 M_X9_isAnchor [.inr (.inr (16, n))] σ K := by
  refine zC_intro pl_X9 (Nat.le_of_ble_eq_true rfl) (T_X9_isAnchor_0 (fun y hy => ⟨_, rfl, ?_⟩))
  have hk := (hW.2.1 t ht).1
  rw [hy, zb_of0 (P := 0 < aK A t) (by rw [hT.2.2.1, show (0 : Int32) = nI 0 from rfl, nI_eq (by omega) (by omega)]; omega)]
  exact hK
theorem S_X1_toldCells {K : Int64 → zSt → Prop} (hW : zWf A) (hR : zRD A σ j) {t : Nat} (ht : t < aN A) (hK : K (zset (atold A t) 64) σ) : zCl true (d + 2) 0 0 M_X1_toldCells [.inr (.inr (7, j)), .inl (nI t)] σ K := by
  have hN : aN A ≤ 24 := hW.1.2.2.2.2.1
  obtain ⟨⟨n, h1, hT⟩, h2, -⟩ := hR.2.1 t ht
  obtain ⟨w1, w2, w3, -⟩ := hW.2.1 t ht
  refine zC_intro pl_X1 (Nat.le_of_ble_eq_true rfl) (T_X1_toldCells_0 ⟨nI_in (by omega) (by omega), n, by rw [nI_clamp (by omega)]; exact h1, S_X9_isAnchor hW ht hT ⟨fun h => ⟨nI_in (by omega) (by omega), _, rfl, ?_⟩, fun h => ⟨nI_in (by omega) (by omega), n, by rw [nI_clamp (by omega)]; exact h1, _, rfl, ?_⟩⟩⟩)
  · rw [zb_0] at h
    rw [nI_clamp (by omega), hR.1.2.2.1, h2]
    rw [zset_eq (p := atold A t) (x := zset (afree A) 64 &&& zset (abox A t) 64) (fun i hi => ?_)]
    · exact hK
    · rw [tb_and, tb_set hi, tb_set hi]
      unfold atold
      rw [if_neg (by omega)]
  · rw [zb_0, Decidable.not_not] at h
    obtain ⟨c, e, hc⟩ := w2 h
    have hc64 : c < 64 := by unfold afree at hc; exact acell_64 (by simp at hc; exact hc.1)
    rw [hT.2.2.2.1, e, iI_nat]
    rw [zset_eq (p := atold A t) (x := zlshl 1 (nI c)) (fun i hi => ?_)]
    · exact hK
    · rw [tb_bit hc64]
      unfold atold
      rw [if_pos (by omega), e]
      simp only [decide_eq_decide]
      omega
/-- the cells of anchors -/
def anC (A : zAb) (k : Nat) (c : Nat) : Bool := aAny (fun t => decide (0 < aK A t) && decide (aC A t = (c : Int))) k
theorem L_X1_anchorCells (hW : zWf A) (hR : zRD A σ j) (hQ : Q (some (.inr (.inl (zset (anC A (aN A)) 64)))) σ) : ∀ (n k : Nat), k + n = aN A → zE true (d + 2) kc ks M_X1_anchorCells 4 [some (.inr (.inr (7, j))), some (.inr (.inl (zset (anC A k) 64))), none, some (.inl (nI k))] [] σ Q := by
  have hN : aN A ≤ 24 := hW.1.2.2.2.2.1
  intro n
  induction n with
  | zero =>
    intro k hk
    have : k = aN A := by omega
    subst this
    exact T_X1_anchorCells_4 ⟨fun _ => hQ, fun h => absurd (by rw [zrd_nT hR]; exact Int32.le_refl _) h⟩
  | succ n ih =>
    intro k hk
    have hkN : k < aN A := by omega
    obtain ⟨⟨i, h1, hT⟩, -⟩ := hR.2.1 k hkN
    obtain ⟨w1, w2, w3, -⟩ := hW.2.1 k hkN
    refine T_X1_anchorCells_4 ⟨fun h => ?_, fun _ => ⟨nI_in (by omega) (by omega), i, by rw [nI_clamp (by omega)]; exact h1, S_X9_isAnchor hW hkN hT ⟨fun h => ?_, fun h => ⟨nI_in (by omega) (by omega), i, by rw [nI_clamp (by omega)]; exact h1, ?_⟩⟩⟩⟩
    · rw [zrd_nT hR, nI_leI (by omega) (by omega)] at h
      omega
    · rw [zb_0] at h
      have e : zset (anC A k) 64 ||| 0 = zset (anC A (k + 1)) 64 := zset_eq (fun c hc => by
        rw [tb_or, tb_set hc, tb_0]
        simp [anC, aAny, show ¬ 0 < aK A k from h])
      rw [e, ← nI_succ]
      exact ih (k + 1) (by omega)
    · rw [zb_0, Decidable.not_not] at h
      obtain ⟨c, ec, hc⟩ := w2 h
      have hc64 : c < 64 := by unfold afree at hc; exact acell_64 (by simp at hc; exact hc.1)
      have e : zset (anC A k) 64 ||| zlshl 1 (zgi σ 16 i 2) = zset (anC A (k + 1)) 64 := zset_eq (fun x hx => by
        rw [tb_or, tb_set hx, hT.2.2.2.1, ec, iI_nat, tb_bit hc64]
        show _ = (aAny _ k || (decide (0 < aK A k) && decide (aC A k = (x : Int))))
        rw [ec]
        simp only [h, decide_true, Bool.true_and]
        congr 1
        rw [decide_eq_decide]
        omega)
      rw [e, ← nI_succ]
      exact ih (k + 1) (by omega)
theorem S_X1_anchorCells {K : Int64 → zSt → Prop} (hW : zWf A) (hR : zRD A σ j) (hK : K (zset (anC A (aN A)) 64) σ) : zCl true (d + 2) 0 0 M_X1_anchorCells [.inr (.inr (7, j))] σ K := by
  refine zC_intro pl_X1 (Nat.le_of_ble_eq_true rfl) (T_X1_anchorCells_0 ?_)
  have e : (0 : Int64) = zset (anC A 0) 64 := zset_eq (fun i hi => by rw [tb_0]; rfl)
  have := L_X1_anchorCells (d := d) (kc := 0) (ks := 0) (Q := fun r σ' => ∃ x, r = some (.inr (.inl x)) ∧ K x σ') hW hR ⟨_, rfl, hK⟩ (aN A) 0 (by omega)
  rw [← e] at this
  exact this
end zD1
