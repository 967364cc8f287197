/-! what the small functions answer -/
theorem pl_X11 : plainName RX11 = true := by decide +kernel
theorem pl_X12 : plainName RX12 = true := by decide +kernel
theorem pl_J13 : plainName RJ13 = true := by decide +kernel
theorem pl_J6 : plainName RJ6 = true := by decide +kernel
section zS1
variable {ph : Bool} {d : Nat} {σ : zSt}
theorem S_X12_in {K : Int32 → zSt → Prop} (v l h : Int64) (hK : K (zb (l ≤ v ∧ v ≤ h)) σ) : zCi ph (d + 1) 0 0 M_X12_in [.inr (.inl v), .inr (.inl l), .inr (.inl h)] σ K := by
  refine zC_intro pl_X12 (Nat.le_of_ble_eq_true rfl) (T_X12_in_0 (fun y hy => ⟨_, rfl, ?_⟩))
  rw [hy, zb_of0 (P := l ≤ v ∧ v ≤ h) (by rw [lg_cmp_lt, lg_cmp_gt, Decidable.not_and_iff_or_not, Int64.not_le, Int64.not_le])]
  exact hK
theorem S_X12_lost {K : Int64 → zSt → Prop} (hK : K (-9223372036854775808) σ) : zCl ph (d + 1) 0 0 M_X12_lost [] σ K :=
  zC_intro pl_X12 (Nat.le_of_ble_eq_true rfl) (T_X12_lost_0 ⟨_, rfl, hK⟩)
theorem S_X12_sizeOf {K : Int32 → zSt → Prop} (v : Int32) (hK : K (if 0 ≤ v then v else -v) σ) : zCi ph (d + 1) 0 0 M_X12_sizeOf [.inl v] σ K :=
  zC_intro pl_X12 (Nat.le_of_ble_eq_true rfl) (T_X12_sizeOf_0 (fun x hx => ⟨_, rfl, by rw [hx]; exact hK⟩))
theorem S_X12_greater {K : Int32 → zSt → Prop} (a b : Int32) (hK : K (if a ≤ b then b else a) σ) : zCi ph (d + 1) 0 0 M_X12_greater [.inl a, .inl b] σ K :=
  zC_intro pl_X12 (Nat.le_of_ble_eq_true rfl) (T_X12_greater_0 (fun x hx => ⟨_, rfl, by rw [hx]; exact hK⟩))
theorem S_X12_hasBit {K : Int32 → zSt → Prop} (x : Int64) (k : Int32) (hK : K (zb (zlushr x k &&& 1 = 1)) σ) : zCi ph (d + 1) 0 0 M_X12_hasBit [.inr (.inl x), .inl k] σ K := by
  refine zC_intro pl_X12 (Nat.le_of_ble_eq_true rfl) (T_X12_hasBit_0 (fun y hy => ⟨_, rfl, ?_⟩))
  rw [hy, zb_of0 (P := zlushr x k &&& 1 = 1) (by rw [lg_cmp_0])]
  exact hK
theorem S_X12_distance {K : Int32 → zSt → Prop} (a b : Int32) (hK : K (zdm a b) σ) : zCi ph (d + 1) 0 0 M_X12_distance [.inl a, .inl b] σ K :=
  zC_intro pl_X12 (Nat.le_of_ble_eq_true rfl) (T_X12_distance_0 ⟨_, rfl, hK⟩)
theorem S_X12_differs {K : Int32 → zSt → Prop} (a b : Int64) (hK : K (zb (¬ a = b)) σ) : zCi ph (d + 1) 0 0 M_X12_differs [.inr (.inl a), .inr (.inl b)] σ K := by
  refine zC_intro pl_X12 (Nat.le_of_ble_eq_true rfl) (T_X12_differs_0 (fun y hy => ⟨_, rfl, ?_⟩))
  rw [hy, zb_of0 (P := ¬ a = b) (by rw [lg_cmp_0, Decidable.not_not])]
  exact hK
theorem S_X12_asNumber {K : Int32 → zSt → Prop} (a : Int32) (hK : K (zb (¬ a = 0)) σ) : zCi ph (d + 1) 0 0 M_X12_asNumber [.inl a] σ K := by
  refine zC_intro pl_X12 (Nat.le_of_ble_eq_true rfl) (T_X12_asNumber_0 (fun y hy => ⟨_, rfl, ?_⟩))
  rw [hy, zb_of0 (P := ¬ a = 0) (by rw [Decidable.not_not])]
  exact hK
theorem S_X12_isBeyond {K : Int32 → zSt → Prop} (i : Int32) (n : Int64) (all : Int32) (hK : K (zb (i < 0 ∨ n < 0 ∨ all.toInt64 < i.toInt64 + n)) σ) : zCi ph (d + 1) 0 0 M_X12_isBeyond [.inl i, .inr (.inl n), .inl all] σ K := by
  refine zC_intro pl_X12 (Nat.le_of_ble_eq_true rfl) (T_X12_isBeyond_0 (fun y hy => ⟨_, rfl, ?_⟩))
  rw [hy, zb_of1 (P := i < 0 ∨ n < 0 ∨ all.toInt64 < i.toInt64 + n) (by rw [lg_cmp_lt, lg_cmp_le, Int64.not_le])]
  exact hK
theorem S_X11_within {K : Int32 → zSt → Prop} (n l m : Int32) (hK : K (zb (l ≤ n ∧ n ≤ m)) σ) : zCi ph (d + 1) 0 0 M_X11_within [.inl n, .inl l, .inl m] σ K := by
  refine zC_intro pl_X11 (Nat.le_of_ble_eq_true rfl) (T_X11_within_0 (fun y hy => ⟨_, rfl, ?_⟩))
  rw [hy, zb_of0 (P := l ≤ n ∧ n ≤ m) (by rw [Decidable.not_and_iff_or_not, Int32.not_le, Int32.not_le])]
  exact hK
theorem S_X11_bit {K : Int64 → zSt → Prop} (n : Int32) (hK : K (zlshl 1 n) σ) : zCl ph (d + 1) 0 0 M_X11_bit [.inl n] σ K :=
  zC_intro pl_X11 (Nat.le_of_ble_eq_true rfl) (T_X11_bit_0 ⟨_, rfl, hK⟩)
theorem S_X11_has {K : Int32 → zSt → Prop} (x : Int64) (k : Int32) (hK : K (zb (¬ zlushr x k &&& 1 = 0)) σ) : zCi ph (d + 1) 0 0 M_X11_has [.inr (.inl x), .inl k] σ K := by
  refine zC_intro pl_X11 (Nat.le_of_ble_eq_true rfl) (T_X11_has_0 (fun y hy => ⟨_, rfl, ?_⟩))
  rw [hy, zb_of0 (P := ¬ zlushr x k &&& 1 = 0) (by rw [lg_cmp_0, Decidable.not_not])]
  exact hK
theorem S_X11_distance {K : Int32 → zSt → Prop} (a b : Int32) (hK : K (zdc a b) σ) : zCi ph (d + 1) 0 0 M_X11_distance [.inl a, .inl b] σ K :=
  zC_intro pl_X11 (Nat.le_of_ble_eq_true rfl) (T_X11_distance_0 ⟨_, rfl, hK⟩)
theorem S_J13_bitCount_95d88 {K : Int32 → zSt → Prop} (x : Int64) (hK : K (zbc64 x) σ) : zCi ph (d + 1) 0 0 M_J13_bitCount_95d88 [.inr (.inl x)] σ K :=
  zC_intro pl_J13 (Nat.le_of_ble_eq_true rfl) (T_J13_bitCount_95d88_0 ⟨_, rfl, hK⟩)
theorem S_J6_bitCount_0f7a4 {K : Int32 → zSt → Prop} (x : Int32) (hK : K (zbc32 x) σ) : zCi ph (d + 1) 0 0 M_J6_bitCount_0f7a4 [.inl x] σ K :=
  zC_intro pl_J6 (Nat.le_of_ble_eq_true rfl) (T_J6_bitCount_0f7a4_0 ⟨_, rfl, hK⟩)
theorem S_X11_lowest {K : Int32 → zSt → Prop} (x : Int64) (hK : K (zbc64 ((x &&& -x) - 1)) σ) : zCi ph (d + 2) 0 0 M_X11_lowest [.inr (.inl x)] σ K :=
  zC_intro pl_X11 (Nat.le_of_ble_eq_true rfl) (T_X11_lowest_0 (S_J13_bitCount_95d88 _ ⟨_, rfl, hK⟩))
end zS1
