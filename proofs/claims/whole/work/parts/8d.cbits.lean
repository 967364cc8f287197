/-! sets gone through by their lowest places (class) -/
theorem zdrop {x : Int64} {k : Nat} (hk : k < 64) (h1 : tb x k = true) (h2 : ∀ i, i < k → tb x i = false) {i : Nat} (hi : i < 64) : tb (x &&& (x - 1)) i = (tb x i && !decide (i = k)) := by
  have e : (x - 1).toBitVec = ~~~(-x).toBitVec := by
    rw [Int64.toBitVec_neg, Int64.toBitVec_sub]
    apply BitVec.eq_of_toNat_eq
    have := x.toBitVec.isLt
    rw [BitVec.toNat_not, BitVec.toNat_neg, BitVec.toNat_sub]
    show (2 ^ 64 - 1 + x.toBitVec.toNat) % 2 ^ 64 = _
    omega
  rw [tb_and]
  have e2 : tb (x - 1) i = !(-x).toBitVec.getLsbD i := by
    unfold tb
    rw [e, BitVec.getLsbD_not]
    simp [hi]
  rw [e2, Int64.toBitVec_neg, BitVec.getLsbD_neg]
  rcases Nat.lt_trichotomy i k with h | h | h
  · rw [h2 i h]; rfl
  · subst h
    have hn : ¬ ∃ j, j < i ∧ x.toBitVec.getLsbD j = true := by
      intro ⟨j, hj, hb⟩
      have := h2 j hj
      unfold tb at this
      rw [this] at hb
      cases hb
    unfold tb at h1 ⊢
    simp [h1, hi, hn]
  · have hy : ∃ j, j < i ∧ x.toBitVec.getLsbD j = true := ⟨k, h, h1⟩
    unfold tb
    cases hb : x.toBitVec.getLsbD i
    · simp
    · simp [hi, hy, show ¬ i = k by omega]
theorem bdrop {x : Int32} {k : Nat} (hk : k < 32) (h1 : bt x k = true) (h2 : ∀ i, i < k → bt x i = false) {i : Nat} (hi : i < 32) : bt (x &&& (x - 1)) i = (bt x i && !decide (i = k)) := by
  have e : (x - 1).toBitVec = ~~~(-x).toBitVec := by
    rw [Int32.toBitVec_neg, Int32.toBitVec_sub]
    apply BitVec.eq_of_toNat_eq
    have := x.toBitVec.isLt
    rw [BitVec.toNat_not, BitVec.toNat_neg, BitVec.toNat_sub]
    show (2 ^ 32 - 1 + x.toBitVec.toNat) % 2 ^ 32 = _
    omega
  rw [b_and]
  have e2 : bt (x - 1) i = !(-x).toBitVec.getLsbD i := by
    unfold bt
    rw [e, BitVec.getLsbD_not]
    simp [hi]
  rw [e2, Int32.toBitVec_neg, BitVec.getLsbD_neg]
  rcases Nat.lt_trichotomy i k with h | h | h
  · rw [h2 i h]; rfl
  · subst h
    have hn : ¬ ∃ j, j < i ∧ x.toBitVec.getLsbD j = true := by
      intro ⟨j, hj, hb⟩
      have := h2 j hj
      unfold bt at this
      rw [this] at hb
      cases hb
    unfold bt at h1 ⊢
    simp [h1, hi, hn]
  · have hy : ∃ j, j < i ∧ x.toBitVec.getLsbD j = true := ⟨k, h, h1⟩
    unfold bt
    cases hb : x.toBitVec.getLsbD i
    · simp
    · simp [hi, hy, show ¬ i = k by omega]
/-- the rest of a set from place k on -/
def zab (p : Nat → Bool) (k : Nat) : Int64 := zset (fun i => p i && decide (k ≤ i)) 64
def yab (p : Nat → Bool) (k : Nat) : Int32 := yset (fun i => p i && decide (k ≤ i)) 32
theorem zab_0 (p : Nat → Bool) : zset p 64 = zab p 0 := zset_eq (fun i hi => by rw [tb_set hi]; simp)
theorem zab_skip {p : Nat → Bool} {k : Nat} (h : p k = false) : zab p k = zab p (k + 1) := zset_eq (fun i hi => by
  unfold zab
  rw [tb_set hi]
  by_cases e : i = k
  · subst e; rw [h]; rfl
  · rw [show decide (k ≤ i) = decide (k + 1 ≤ i) from decide_eq_decide.mpr (by omega)])
theorem zab_t {p : Nat → Bool} {k i : Nat} (hi : i < 64) : tb (zab p k) i = (p i && decide (k ≤ i)) := tb_set hi
theorem zab_low {p : Nat → Bool} {k : Nat} (hk : k < 64) (h : p k = true) : zbc64 ((zab p k &&& -zab p k) - 1) = nI k ∧ ¬ lg_cmp (zab p k) 0 = 0 ∧ zab p k &&& (zab p k - 1) = zab p (k + 1) := by
  have h1 : tb (zab p k) k = true := by rw [zab_t hk, h]; simp
  have h2 : ∀ i, i < k → tb (zab p k) i = false := fun i hi => by rw [zab_t (by omega)]; simp [show ¬ k ≤ i by omega]
  refine ⟨zlow hk h1 h2, fun q => ?_, zset_eq (fun i hi => ?_)⟩
  · rw [lg_cmp_0] at q
    rw [q, tb_0] at h1
    cases h1
  · rw [zdrop hk h1 h2 hi, zab_t hi, Bool.and_assoc]
    congr 1
    by_cases e : k + 1 ≤ i
    · simp [e, show ¬ i = k by omega, show k ≤ i by omega]
    · by_cases e2 : i = k
      · subst e2; simp
      · simp [e, show ¬ k ≤ i by omega]
theorem zab_64 (p : Nat → Bool) : zab p 64 = 0 := (zset_eq (fun i hi => by rw [tb_0]; simp [show ¬ 64 ≤ i by omega])).symm
theorem yab_0 (p : Nat → Bool) : yset p 32 = yab p 0 := yset_eq (fun i hi => by rw [bt_set hi]; simp)
theorem yab_skip {p : Nat → Bool} {k : Nat} (h : p k = false) : yab p k = yab p (k + 1) := yset_eq (fun i hi => by
  unfold yab
  rw [bt_set hi]
  by_cases e : i = k
  · subst e; rw [h]; rfl
  · rw [show decide (k ≤ i) = decide (k + 1 ≤ i) from decide_eq_decide.mpr (by omega)])
theorem yab_t {p : Nat → Bool} {k i : Nat} (hi : i < 32) : bt (yab p k) i = (p i && decide (k ≤ i)) := bt_set hi
theorem yab_low {p : Nat → Bool} {k : Nat} (hk : k < 32) (h : p k = true) : zbc64 (((yab p k).toInt64 &&& -(yab p k).toInt64) - 1) = nI k ∧ ¬ yab p k = 0 ∧ yab p k &&& (yab p k - 1) = yab p (k + 1) := by
  have h1 : bt (yab p k) k = true := by rw [yab_t hk, h]; simp
  have h2 : ∀ i, i < k → bt (yab p k) i = false := fun i hi => by rw [yab_t (by omega)]; simp [show ¬ k ≤ i by omega]
  refine ⟨zlow (by omega) (by rw [tb_of32 _ hk]; exact h1) (fun i hi => by rw [tb_of32 _ (by omega)]; exact h2 i hi), fun q => ?_, yset_eq (fun i hi => ?_)⟩
  · rw [q, b_0] at h1
    cases h1
  · rw [bdrop hk h1 h2 hi, yab_t hi, Bool.and_assoc]
    congr 1
    by_cases e : k + 1 ≤ i
    · simp [e, show ¬ i = k by omega, show k ≤ i by omega]
    · by_cases e2 : i = k
      · subst e2; simp
      · simp [e, show ¬ k ≤ i by omega]
theorem yab_32 (p : Nat → Bool) : yab p 32 = 0 := (yset_eq (fun i hi => by rw [b_0]; simp [show ¬ 32 ≤ i by omega])).symm
theorem yset_0 {p : Nat → Bool} : yset p 32 = 0 ↔ ∀ i, i < 32 → p i = false :=
  ⟨fun h i hi => by rw [← bt_set (p := p) hi, h, b_0], fun h => (yset_eq (fun i hi => by rw [b_0, h i hi])).symm⟩
/-- whether a place is in a set, as the class asks it -/
theorem zh_b {k : Nat} (hk : k < 64) (p : Nat → Bool) : zb (¬ zlushr (zset p 64) (nI k) &&& 1 = 0) = zb (p k = true) := zb_iff (by
  rw [zl_bit0 hk, tb_set hk, Bool.not_eq_false])
theorem yh_b {k : Nat} (hk : k < 32) (p : Nat → Bool) : zb (¬ zlushr (yset p 32).toInt64 (nI k) &&& 1 = 0) = zb (p k = true) := zb_iff (by
  rw [zl_bit0 (by omega), tb_of32 _ hk, bt_set hk, Bool.not_eq_false])
/-! what is near, what lies beside -/
theorem zside_back : ∀ p, p < 4 → ∀ c d, zside d c ((p + 2) % 4) = zside c d p := by
  intro p hp c d
  unfold zside
  simp only
  have e1 : ((c % 8 : Nat) : Int) - ((d % 8 : Nat) : Int) = -(((d % 8 : Nat) : Int) - ((c % 8 : Nat) : Int)) := by omega
  have e2 : ((c / 8 : Nat) : Int) - ((d / 8 : Nat) : Int) = -(((d / 8 : Nat) : Int) - ((c / 8 : Nat) : Int)) := by omega
  rw [e1, e2]
  generalize ((d % 8 : Nat) : Int) - ((c % 8 : Nat) : Int) = X
  generalize ((d / 8 : Nat) : Int) - ((c / 8 : Nat) : Int) = Y
  rw [Int.natAbs_neg, Int.natAbs_neg]
  match p, hp with
  | 0, _ => simp
  | 1, _ => simp
  | 2, _ => simp
  | 3, _ => simp
def zGr (σ : zSt) : Prop := (∀ r c, r < 99 → c < 64 → zgl σ 32 r c = zset (fun d => decide (zdist c d ≤ r)) 64) ∧ ∀ s c, s < 4 → c < 64 → zgl σ 34 s c = zset (fun d => zside c d s) 64
theorem zGr.only {σ σ' : zSt} {M : Nat → Nat → Nat → Prop} (h : zGr σ) (ho : zOnly M σ σ') (hm : ∀ j k, ¬ M 32 j k ∧ ¬ M 34 j k) : zGr σ' :=
  ⟨fun r c hr hc => by rw [ho.l 32 r c (hm r c).1]; exact h.1 r c hr hc, fun s c hs hc => by rw [ho.l 34 s c (hm s c).2]; exact h.2 s c hs hc⟩
section zCa
variable {d kc ks : Nat} {σ : zSt} {A : zAb} {Q : Option zV → zSt → Prop}
theorem L_X3_around {p : Nat → Bool} {r : Nat} (hG : zGr σ) (hr : r < 99) (hQ : Q (some (.inr (.inl (zset (fun e => aAny (fun c => p c && decide (zdist c e ≤ r)) 64) 64)))) σ) : ∀ (n k : Nat), k + n = 64 → zE true (d + 3) kc ks M_X3_around 6 [some (.inr (.inr (8, 0))), none, none, some (.inl (nI r)), some (.inr (.inl (zset (fun e => aAny (fun c => p c && decide (zdist c e ≤ r)) k) 64))), none, some (.inr (.inl (zab p k))), none] [] σ Q := by
  intro n
  induction n with
  | zero =>
    intro k hk
    have : k = 64 := by omega
    subst this
    refine T_X3_around_6 ⟨fun _ => hQ, fun q => absurd ?_ q⟩
    rw [lg_cmp_0, zab_64]
  | succ n ih =>
    intro k hk
    by_cases hp : p k = true
    · obtain ⟨h1, h2, h3⟩ := zab_low (show k < 64 by omega) hp
      refine T_X3_around_6 ⟨fun q => absurd q h2, fun _ => ?_⟩
      rw [h1, h3, nI_clamp (show k < 2 ^ 31 by omega), nI_clamp (show r < 2 ^ 31 by omega), hG.1 r k hr (by omega)]
      refine ⟨nI_in hr (by omega), nI_in (by omega) (by omega), ?_⟩
      have e : zset (fun e => aAny (fun c => p c && decide (zdist c e ≤ r)) k) 64 ||| zset (fun d => decide (zdist k d ≤ r)) 64 = zset (fun e => aAny (fun c => p c && decide (zdist c e ≤ r)) (k + 1)) 64 := zset_eq (fun i hi => by
        rw [tb_or, tb_set hi, tb_set hi, aAny, hp, Bool.true_and])
      rw [e]
      exact ih (k + 1) (by omega)
    · rw [Bool.not_eq_true] at hp
      rw [zab_skip hp]
      have e : zset (fun e => aAny (fun c => p c && decide (zdist c e ≤ r)) k) 64 = zset (fun e => aAny (fun c => p c && decide (zdist c e ≤ r)) (k + 1)) 64 := zset_eq (fun i hi => by
        rw [tb_set hi, aAny, hp, Bool.false_and, Bool.or_false])
      rw [e]
      exact ih (k + 1) (by omega)
theorem S_X3_around {K : Int64 → zSt → Prop} {p : Nat → Bool} {r : Nat} (hG : zGr σ) (hr : r < 99) (hK : K (zset (fun e => aAny (fun c => p c && decide (zdist c e ≤ r)) 64) 64) σ) : zCl true (d + 3) 0 0 M_X3_around [.inr (.inr (8, 0)), .inr (.inl (zset p 64)), .inl (nI r)] σ K := by
  refine zC_intro pl_X3 (Nat.le_of_ble_eq_true rfl) (T_X3_around_0 ?_)
  have e : (0 : Int64) = zset (fun e => aAny (fun c => p c && decide (zdist c e ≤ r)) 0) 64 := zset_eq (fun i hi => by rw [tb_0]; rfl)
  rw [zab_0]
  have := L_X3_around (d := d) (kc := 0) (ks := 0) (p := p) (Q := fun r σ' => ∃ x, r = some (.inr (.inl x)) ∧ K x σ') hG hr ⟨_, rfl, hK⟩ 64 0 rfl
  rw [← e] at this
  exact this
end zCa
