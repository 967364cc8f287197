/-! what the small functions answer -/
theorem pl_X11 : plainName RX11 = true := by decide +kernel
theorem pl_X12 : plainName RX12 = true := by decide +kernel
theorem pl_J13 : plainName RJ13 = true := by decide +kernel
theorem pl_J6 : plainName RJ6 = true := by decide +kernel
def zbc64 (a : Int64) : Int32 :=
  let a1 := a - (zlushr a 1 &&& 6148914691236517205)
  let a2 := (a1 &&& 3689348814741910323) + (zlushr a1 2 &&& 3689348814741910323)
  let a3 := (a2 + zlushr a2 4) &&& 1085102592571150095
  let a4 := a3 + zlushr a3 8
  let a5 := a4 + zlushr a4 16
  let a6 := a5 + zlushr a5 32
  a6.toInt32 &&& 127
def zbc32 (a : Int32) : Int32 :=
  let a1 := a - (ziushr a 1 &&& 1431655765)
  let a2 := (a1 &&& 858993459) + (ziushr a1 2 &&& 858993459)
  let a3 := (a2 + ziushr a2 4) &&& 252645135
  let a4 := a3 + ziushr a3 8
  let a5 := a4 + ziushr a4 16
  a5 &&& 63
def zdm (c d : Int32) : Int32 := (c % 8 - d % 8) * (c % 8 - d % 8) + (c / 8 - d / 8) * (c / 8 - d / 8)
def zdc (c d : Int32) : Int32 := ((d &&& 7) - (c &&& 7)) * ((d &&& 7) - (c &&& 7)) + ((zishr d 3) - (zishr c 3)) * ((zishr d 3) - (zishr c 3))
section zS1
variable {ph : Bool} {d : Nat} {σ : zSt}
theorem S_X12_in {K : Int32 → zSt → Prop} (v l h : Int64) (hK : K (zb (l ≤ v ∧ v ≤ h)) σ) : zCi ph (d + 1) 0 0 M_X12_in [.inr (.inl v), .inr (.inl l), .inr (.inl h)] σ K := by
  refine zC_intro pl_X12 (Nat.le_of_ble_eq_true rfl) (T_X12_in_0 ⟨fun q => ⟨_, rfl, ?_⟩, fun q => ⟨_, rfl, ?_⟩⟩)
  · rw [lg_cmp_lt, lg_cmp_gt] at q
    rwa [zb_f (fun e => by rcases q with q | q; exact Int64.not_lt.mpr e.1 q; exact Int64.not_lt.mpr e.2 q)] at hK
  · rw [lg_cmp_lt, lg_cmp_gt, not_or, Int64.not_lt, Int64.not_lt] at q
    rwa [zb_t q] at hK
theorem S_X12_lost {K : Int64 → zSt → Prop} (hK : K (-9223372036854775808) σ) : zCl ph (d + 1) 0 0 M_X12_lost [] σ K :=
  zC_intro pl_X12 (Nat.le_of_ble_eq_true rfl) (T_X12_lost_0 ⟨_, rfl, hK⟩)
theorem S_X12_sizeOf {K : Int32 → zSt → Prop} (v : Int32) (hK : K (if 0 ≤ v then v else -v) σ) : zCi ph (d + 1) 0 0 M_X12_sizeOf [.inl v] σ K :=
  zC_intro pl_X12 (Nat.le_of_ble_eq_true rfl) (T_X12_sizeOf_0 (fun x hx => ⟨_, rfl, by rw [hx]; exact hK⟩))
theorem S_X12_greater {K : Int32 → zSt → Prop} (a b : Int32) (hK : K (if a ≤ b then b else a) σ) : zCi ph (d + 1) 0 0 M_X12_greater [.inl a, .inl b] σ K :=
  zC_intro pl_X12 (Nat.le_of_ble_eq_true rfl) (T_X12_greater_0 (fun x hx => ⟨_, rfl, by rw [hx]; exact hK⟩))
theorem S_X12_hasBit {K : Int32 → zSt → Prop} (x : Int64) (k : Int32) (hK : K (zb (zlushr x k &&& 1 = 1)) σ) : zCi ph (d + 1) 0 0 M_X12_hasBit [.inr (.inl x), .inl k] σ K := by
  refine zC_intro pl_X12 (Nat.le_of_ble_eq_true rfl) (T_X12_hasBit_0 (fun y hy => ?_))
  have e : y = zb (zlushr x k &&& 1 = 1) := by
    rw [hy]; unfold zb
    by_cases h : zlushr x k &&& 1 = 1
    · rw [if_neg (by rw [lg_cmp_0]; exact fun q => q h), if_pos h]
    · rw [if_pos (by rw [lg_cmp_0]; exact h), if_neg h]
  rw [e]
  exact ⟨zb_01, ⟨_, rfl, hK⟩⟩
theorem S_X12_distance {K : Int32 → zSt → Prop} (a b : Int32) (hK : K (zdm a b) σ) : zCi ph (d + 1) 0 0 M_X12_distance [.inl a, .inl b] σ K :=
  zC_intro pl_X12 (Nat.le_of_ble_eq_true rfl) (T_X12_distance_0 ⟨_, rfl, hK⟩)
theorem S_X12_differs {K : Int32 → zSt → Prop} (a b : Int64) (hK : K (zb (¬ a = b)) σ) : zCi ph (d + 1) 0 0 M_X12_differs [.inr (.inl a), .inr (.inl b)] σ K := by
  refine zC_intro pl_X12 (Nat.le_of_ble_eq_true rfl) (T_X12_differs_0 (fun y hy => ?_))
  have e : y = zb (¬ a = b) := by
    rw [hy]; unfold zb
    by_cases h : a = b
    · rw [if_pos ((lg_cmp_0 a b).mpr h), if_neg (fun q => q h)]
    · rw [if_neg (fun q => h ((lg_cmp_0 a b).mp q)), if_pos h]
  rw [e]
  exact ⟨zb_01, ⟨_, rfl, hK⟩⟩
theorem S_X12_asNumber {K : Int32 → zSt → Prop} (a : Int32) (hK : K (zb (¬ a = 0)) σ) : zCi ph (d + 1) 0 0 M_X12_asNumber [.inl a] σ K := by
  refine zC_intro pl_X12 (Nat.le_of_ble_eq_true rfl) (T_X12_asNumber_0 (fun y hy => ⟨_, rfl, ?_⟩))
  have e : y = zb (¬ a = 0) := by
    rw [hy]; unfold zb
    by_cases h : a = 0
    · rw [if_pos h, if_neg (fun q => q h)]
    · rw [if_neg h, if_pos h]
  rw [e]; exact hK
theorem S_X12_isBeyond {K : Int32 → zSt → Prop} (i : Int32) (n : Int64) (all : Int32) (hK : K (zb (i < 0 ∨ n < 0 ∨ all.toInt64 < i.toInt64 + n)) σ) : zCi ph (d + 1) 0 0 M_X12_isBeyond [.inl i, .inr (.inl n), .inl all] σ K := by
  refine zC_intro pl_X12 (Nat.le_of_ble_eq_true rfl) (T_X12_isBeyond_0 ⟨fun q => ⟨_, rfl, ?_⟩, fun q => ⟨_, rfl, ?_⟩⟩)
  · rw [lg_cmp_lt, lg_cmp_le, Int64.not_le] at q
    rwa [zb_t q] at hK
  · rw [lg_cmp_lt, lg_cmp_le, Int64.not_le] at q
    rwa [zb_f q] at hK
theorem S_X11_within {K : Int32 → zSt → Prop} (n l m : Int32) (hK : K (zb (l ≤ n ∧ n ≤ m)) σ) : zCi ph (d + 1) 0 0 M_X11_within [.inl n, .inl l, .inl m] σ K := by
  refine zC_intro pl_X11 (Nat.le_of_ble_eq_true rfl) (T_X11_within_0 ⟨fun q => ⟨_, rfl, ?_⟩, fun q => ⟨_, rfl, ?_⟩⟩)
  · rwa [zb_f (fun e => by rcases q with q | q; exact Int32.not_lt.mpr e.1 q; exact Int32.not_lt.mpr e.2 q)] at hK
  · rw [not_or, Int32.not_lt, Int32.not_lt] at q
    rwa [zb_t q] at hK
theorem S_X11_bit {K : Int64 → zSt → Prop} (n : Int32) (hK : K (zlshl 1 n) σ) : zCl ph (d + 1) 0 0 M_X11_bit [.inl n] σ K :=
  zC_intro pl_X11 (Nat.le_of_ble_eq_true rfl) (T_X11_bit_0 ⟨_, rfl, hK⟩)
theorem S_X11_has {K : Int32 → zSt → Prop} (x : Int64) (k : Int32) (hK : K (zb (¬ zlushr x k &&& 1 = 0)) σ) : zCi ph (d + 1) 0 0 M_X11_has [.inr (.inl x), .inl k] σ K := by
  refine zC_intro pl_X11 (Nat.le_of_ble_eq_true rfl) (T_X11_has_0 (fun y hy => ?_))
  have e : y = zb (¬ zlushr x k &&& 1 = 0) := by
    rw [hy]; unfold zb
    by_cases h : zlushr x k &&& 1 = 0
    · rw [if_pos (by rw [lg_cmp_0]; exact h), if_neg (fun q => q h)]
    · rw [if_neg (by rw [lg_cmp_0]; exact h), if_pos h]
  rw [e]
  exact ⟨zb_01, ⟨_, rfl, hK⟩⟩
theorem S_X11_distance {K : Int32 → zSt → Prop} (a b : Int32) (hK : K (zdc a b) σ) : zCi ph (d + 1) 0 0 M_X11_distance [.inl a, .inl b] σ K :=
  zC_intro pl_X11 (Nat.le_of_ble_eq_true rfl) (T_X11_distance_0 ⟨_, rfl, hK⟩)
theorem S_J13_bitCount_95d88 {K : Int32 → zSt → Prop} (x : Int64) (hK : K (zbc64 x) σ) : zCi ph (d + 1) 0 0 M_J13_bitCount_95d88 [.inr (.inl x)] σ K :=
  zC_intro pl_J13 (Nat.le_of_ble_eq_true rfl) (T_J13_bitCount_95d88_0 ⟨_, rfl, hK⟩)
theorem S_J6_bitCount_0f7a4 {K : Int32 → zSt → Prop} (x : Int32) (hK : K (zbc32 x) σ) : zCi ph (d + 1) 0 0 M_J6_bitCount_0f7a4 [.inl x] σ K :=
  zC_intro pl_J6 (Nat.le_of_ble_eq_true rfl) (T_J6_bitCount_0f7a4_0 ⟨_, rfl, hK⟩)
theorem S_X11_lowest {K : Int32 → zSt → Prop} (x : Int64) (hK : K (zbc64 ((x &&& -x) - 1)) σ) : zCi ph (d + 2) 0 0 M_X11_lowest [.inr (.inl x)] σ K :=
  zC_intro pl_X11 (Nat.le_of_ble_eq_true rfl) (T_X11_lowest_0 (S_J13_bitCount_95d88 _ ⟨_, rfl, hK⟩))
end zS1
