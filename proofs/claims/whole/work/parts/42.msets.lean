/-! sets of cells, as the reference makes them -/
def zset (p : Nat → Bool) : Nat → Int64
  | 0 => 0
  | n + 1 => zset p n ||| (if p n = true then zlshl 1 (nI n) else 0)
theorem tb_zset (p : Nat → Bool) : ∀ (n i : Nat), n ≤ 64 → tb (zset p n) i = (decide (i < n) && p i)
  | 0, i, _ => by simp [zset, tb_0]
  | n + 1, i, h => by
    rw [zset, tb_or, tb_zset p n i (by omega)]
    by_cases hp : p n = true
    · rw [if_pos hp, tb_bit (by omega)]
      by_cases e : i = n
      · subst e; simp [hp]
      · by_cases l : i < n
        · simp [l, e, show i < n + 1 by omega]
        · simp [l, e, show ¬ i < n + 1 by omega]
    · rw [if_neg hp, tb_0]
      by_cases e : i = n
      · subst e; simp [hp]
      · by_cases l : i < n
        · simp [l, show i < n + 1 by omega]
        · simp [l, show ¬ i < n + 1 by omega]
theorem tb_set {p : Nat → Bool} {i : Nat} (h : i < 64) : tb (zset p 64) i = p i := by rw [tb_zset p 64 i (by omega)]; simp [h]
theorem zset_eq {p : Nat → Bool} {x : Int64} (h : ∀ i, i < 64 → tb x i = p i) : x = zset p 64 := tb_ext (fun i hi => by rw [h i hi, tb_set hi])
theorem zset_tb (x : Int64) : zset (tb x) 64 = x := (zset_eq (fun _ _ => rfl)).symm
theorem zset_cong {p q : Nat → Bool} (h : ∀ i, i < 64 → p i = q i) : zset p 64 = zset q 64 := zset_eq (fun i hi => by rw [tb_set hi, h i hi])
section zM2
variable {d kc ks : Nat} {σ : zSt} {A : zAb} {Q : Option zV → zSt → Prop}
theorem L_X12_freeCells (hW : zWf A) (hR : zRM A σ) (hQ : Q (some (.inl (nI (fb_ct (afree A) 64)))) σ) : ∀ (n k : Nat), k + n = 64 → zE true (d + 4) kc ks M_X12_freeCells 4 [some (.inr (.inr (54, 0))), some (.inl (nI (fb_ct (afree A) k))), some (.inl (nI k))] [] σ Q := by
  intro n
  induction n with
  | zero =>
    intro k hk
    have : k = 64 := by omega
    subst this
    exact T_X12_freeCells_4 ⟨fun _ => hQ, fun h => absurd (show (64 : Int32) ≤ nI 64 by decide) h⟩
  | succ n ih =>
    intro k hk
    refine T_X12_freeCells_4 ⟨fun h => ?_, fun _ => S_X12_isFree hW hR k (by omega) (fun x hx => ?_)⟩
    · rw [show (64 : Int32) = nI 64 from rfl, nI_leI (by omega) (by omega)] at h
      omega
    · rw [← nI_succ, hx]
      have e : nI (fb_ct (afree A) k) + (if zb (afree A k = true) = 0 then 0 else 1) = nI (fb_ct (afree A) (k + 1)) := by
        rw [fb_ct_succ, ← nI_add]
        by_cases h : afree A k = true
        · simp [h, zb]; rfl
        · simp [h, zb]; rfl
      rw [e]
      exact ih (k + 1) (by omega)
theorem S_X12_freeCells {K : Int32 → zSt → Prop} (hW : zWf A) (hR : zRM A σ) (hK : K (nI (fb_ct (afree A) 64)) σ) : zCi true (d + 4) 0 0 M_X12_freeCells [.inr (.inr (54, 0))] σ K :=
  zC_intro pl_X12 (Nat.le_of_ble_eq_true rfl) (T_X12_freeCells_0 (L_X12_freeCells hW hR ⟨_, rfl, hK⟩ 64 0 rfl))
theorem nI_4t (t : Nat) : (4 : Int32) * nI t = nI (4 * t) := by rw [show (4 : Int32) = nI 4 from rfl, nI_mul]
theorem L_X12_toldOf (hW : zWf A) (hR : zRM A σ) {t : Nat} (ht : t < aN A) (h0 : aK A t = 0) (hQ : Q (some (.inr (.inl (zset (atold A t) 64)))) σ) : ∀ (n k : Nat), k + n = 64 → zE true (d + 4) kc ks M_X12_toldOf 23 [some (.inr (.inr (54, 0))), some (.inl (nI t)), some (.inr (.inl (zset (atold A t) k))), none, some (.inl (nI k)), none] [] σ Q := by
  have hN : aN A ≤ 24 := hW.1.2.2.2.2.1
  obtain ⟨q1, q2, q3, q4, q5, q6, -⟩ := hR.2.1 t ht
  obtain ⟨-, -, -, b1, b2, b3, b4, -⟩ := hW.2.1 t ht
  intro n
  induction n with
  | zero =>
    intro k hk
    have : k = 64 := by omega
    subst this
    exact T_X12_toldOf_23 ⟨fun _ => hQ, fun h => absurd (show (64 : Int32) ≤ nI 64 by decide) h⟩
  | succ n ih =>
    intro k hk
    have a0 : (nI (4 * t)).toNatClampNeg = 4 * t := nI_clamp (by omega)
    have a1 : (nI (4 * t) + 1).toNatClampNeg = 4 * t + 1 := by rw [← nI_succ]; exact nI_clamp (by omega)
    have a2 : (nI (4 * t) + 2).toNatClampNeg = 4 * t + 2 := by rw [show (2 : Int32) = nI 2 from rfl, nI_add]; exact nI_clamp (by omega)
    have a3 : (nI (4 * t) + 3).toNatClampNeg = 4 * t + 3 := by rw [show (3 : Int32) = nI 3 from rfl, nI_add]; exact nI_clamp (by omega)
    refine T_X12_toldOf_23 ⟨fun h => ?_, fun _ => S_X12_isFree hW hR k (by omega) ?_⟩
    · rw [show (64 : Int32) = nI 64 from rfl, nI_leI (by omega) (by omega)] at h
      omega
    · rw [nI_4t, a0, a1, a2, a3]
      refine ⟨fun _ => nI_in (by omega) (by omega), fun _ => ?_, fun _ _ => ?_, fun _ _ => ?_, fun x hx y hy => ?_⟩
      · rw [show (2 : Int32) = nI 2 from rfl, nI_add]; exact nI_in (by omega) (by omega)
      · rw [← nI_succ]; exact nI_in (by omega) (by omega)
      · rw [show (3 : Int32) = nI 3 from rfl, nI_add]; exact nI_in (by omega) (by omega)
      · have e : x = zb (atold A t k = true) := by
          rw [hx]
          apply zb_of0
          rw [q3, q4, q5, q6, zb_0, zb_0, zb_0, fa_wide_le, fa_wide_le, fa_wide_le, fa_wide_le, nI_mod8 k (by omega), nI_div8 k (by omega), nI_leI (by omega) (by omega), nI_leI (by omega) (by omega), nI_leI (by omega) (by omega), nI_leI (by omega) (by omega)]
          unfold atold abox
          rw [if_neg (by omega)]
          simp only [Bool.and_eq_true, decide_eq_true_eq]
          by_cases hf : afree A k = true
          · simp only [hf, true_and, not_true_eq_false, false_or]; omega
          · simp [hf]
        have e2 : zset (atold A t) k ||| y = zset (atold A t) (k + 1) := by
          rw [zset, hy, e]
          congr 1
          by_cases h : atold A t k = true
          · rw [if_pos h, if_neg (by rw [zb_0]; exact fun q => q h)]
          · rw [if_neg h, if_pos (by rw [zb_0]; exact h)]
        rw [e2, ← nI_succ]
        exact ih (k + 1) (by omega)
theorem S_X12_toldOf {K : Int64 → zSt → Prop} (hW : zWf A) (hR : zRM A σ) {t : Nat} (ht : t < aN A) (hK : K (zset (atold A t) 64) σ) : zCl true (d + 4) 0 0 M_X12_toldOf [.inr (.inr (54, 0)), .inl (nI t)] σ K := by
  have hN : aN A ≤ 24 := hW.1.2.2.2.2.1
  obtain ⟨q1, q2, -⟩ := hR.2.1 t ht
  obtain ⟨w1, w2, w3, -⟩ := hW.2.1 t ht
  refine zC_intro pl_X12 (Nat.le_of_ble_eq_true rfl) (T_X12_toldOf_0 ⟨nI_in (by omega) (by omega), fun h => ?_, fun h => ⟨nI_in (by omega) (by omega), _, rfl, ?_⟩⟩)
  · rw [nI_clamp (by omega), q1, show (0 : Int32) = nI 0 from rfl, nI_leI (by omega) (by omega)] at h
    exact L_X12_toldOf hW hR ht (by omega) ⟨_, rfl, hK⟩ 64 0 rfl
  · rw [nI_clamp (by omega)] at h ⊢
    rw [q1, show (0 : Int32) = nI 0 from rfl, nI_leI (by omega) (by omega)] at h
    obtain ⟨c, e, hc⟩ := w2 (by omega)
    have hc64 : c < 64 := by unfold afree at hc; exact acell_64 (by simp at hc; exact hc.1)
    rw [q2, e, iI_nat]
    rw [zset_eq (p := atold A t) (x := zlshl 1 (nI c)) (fun i hi => ?_)]
    · exact hK
    · rw [tb_bit hc64]
      unfold atold
      rw [if_pos (by omega), e]
      simp only [decide_eq_decide]
      omega
theorem L_X12_count {ph : Bool} {x : Int64} (hQ : Q (some (.inl (nI (fb_ct (tb x) 64)))) σ) : ∀ (n k : Nat), k + n = 64 → zE ph (d + 1) kc ks M_X12_count 4 [some (.inr (.inl (x))), none, some (.inl (nI (fb_ct (tb x) k))), some (.inl (nI k))] [] σ Q := by
  intro n
  induction n with
  | zero =>
    intro k hk
    have : k = 64 := by omega
    subst this
    exact T_X12_count_4 ⟨fun _ => hQ, fun h => absurd (show (64 : Int32) ≤ nI 64 by decide) h⟩
  | succ n ih =>
    intro k hk
    refine T_X12_count_4 ⟨fun h => ?_, fun _ => ?_⟩
    · rw [show (64 : Int32) = nI 64 from rfl, nI_leI (by omega) (by omega)] at h
      omega
    · have e : nI (fb_ct (tb x) k) + (zlushr x (nI k) &&& 1).toInt32 = nI (fb_ct (tb x) (k + 1)) := by
        rw [fb_ct_succ, ← nI_add, zl_bit (by omega)]
        congr 1
        by_cases h : tb x k = true
        · rw [if_pos h, if_pos h]; rfl
        · rw [if_neg h, if_neg h]; rfl
      rw [e, ← nI_succ]
      exact ih (k + 1) (by omega)
theorem S_X12_count {ph : Bool} {K : Int32 → zSt → Prop} (x : Int64) (hK : K (nI (fb_ct (tb x) 64)) σ) : zCi ph (d + 1) 0 0 M_X12_count [.inr (.inl (x))] σ K :=
  zC_intro pl_X12 (Nat.le_of_ble_eq_true rfl) (T_X12_count_0 (L_X12_count ⟨_, rfl, hK⟩ 64 0 rfl))
end zM2
/-- the first place of a set, or -9 -/
def zfst (p : Nat → Bool) : Nat → Int
  | 0 => -9
  | n + 1 => if zfst p n = -9 then (if p n = true then (n : Int) else -9) else zfst p n
theorem zfst_none {p : Nat → Bool} : ∀ {n : Nat}, zfst p n = -9 ↔ ∀ i, i < n → p i = false
  | 0 => by simp [zfst]
  | n + 1 => by
    rw [zfst]
    by_cases h : zfst p n = -9
    · rw [if_pos h]
      have ih := zfst_none.mp h
      by_cases hp : p n = true
      · rw [if_pos hp]
        exact ⟨fun e => by omega, fun q => by rw [q n (by omega)] at hp; cases hp⟩
      · rw [if_neg hp]
        refine ⟨fun _ i hi => ?_, fun _ => rfl⟩
        by_cases e : i = n
        · subst e; simpa using hp
        · exact ih i (by omega)
    · rw [if_neg h]
      exact ⟨fun q => absurd q h, fun q => absurd (zfst_none.mpr (fun i hi => q i (by omega))) h⟩
theorem zfst_some {p : Nat → Bool} {k : Nat} (hp : p k = true) (hl : ∀ i, i < k → p i = false) : ∀ {n : Nat}, k < n → zfst p n = (k : Int)
  | 0, h => by omega
  | n + 1, h => by
    rw [zfst]
    by_cases e : k = n
    · subst e
      rw [if_pos (zfst_none.mpr hl), if_pos hp]
    · rw [zfst_some hp hl (by omega), if_neg (by omega)]
