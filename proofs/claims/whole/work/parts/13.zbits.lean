/-! sets of cells and of things as bits -/
def tb (x : Int64) (i : Nat) : Bool := x.toBitVec.getLsbD i
theorem tb_ext {x y : Int64} (h : ∀ i, i < 64 → tb x i = tb y i) : x = y := wb_inj (BitVec.eq_of_getLsbD_eq (fun i hi => h i hi))
theorem tb_big {x : Int64} {i : Nat} (h : 64 ≤ i) : tb x i = false := BitVec.getLsbD_of_ge _ _ h
theorem tb_and (x y : Int64) (i : Nat) : tb (x &&& y) i = (tb x i && tb y i) := by simp [tb]
theorem tb_or (x y : Int64) (i : Nat) : tb (x ||| y) i = (tb x i || tb y i) := by simp [tb]
theorem tb_xor (x y : Int64) (i : Nat) : tb (x ^^^ y) i = (tb x i ^^ tb y i) := by simp [tb]
theorem tb_0 (i : Nat) : tb 0 i = false := by simp [tb]
theorem tb_m1 {i : Nat} (h : i < 64) : tb (-1) i = true := by
  have : (-1 : Int64).toBitVec = BitVec.allOnes 64 := by decide +kernel
  rw [tb, this, BitVec.getLsbD_allOnes]
  exact decide_eq_true h
theorem tb_not (x : Int64) {i : Nat} (h : i < 64) : tb (x ^^^ (-1)) i = !(tb x i) := by rw [tb_xor, tb_m1 h]; simp
theorem zl_shl {k : Nat} (hk : k < 64) : (zlshl 1 (nI k)).toBitVec = BitVec.twoPow 64 k := by
  unfold zlshl
  rw [wb_c k hk]
  have : (1 : Int64) = lN 1 := rfl
  rw [this, ← wb_c k hk, wb_shl 1 hk, wb_tb, Nat.one_mul]
  apply BitVec.eq_of_toNat_eq
  simp [BitVec.toNat_twoPow]
theorem tb_bit {k : Nat} (hk : k < 64) (i : Nat) : tb (zlshl 1 (nI k)) i = decide (i = k) := by
  rw [tb, zl_shl hk, BitVec.getLsbD_twoPow]
  by_cases h : i = k
  · simp [h, hk]
  · simp [h, Ne.symm h]
theorem tb_ushr {k : Nat} (hk : k < 64) (x : Int64) (i : Nat) : tb (zlushr x (nI k)) i = tb x (k + i) := by
  obtain ⟨n, hn, rfl⟩ := wb_of x
  unfold zlushr
  rw [wb_shr hn hk, tb, tb, wb_tb, wb_tb]
  rw [BitVec.getLsbD_ofNat, BitVec.getLsbD_ofNat, Nat.testBit_div_two_pow]
  by_cases h : k + i < 64
  · simp [h, show i < 64 by omega, Nat.add_comm]
  · have : n.testBit (i + k) = false := Nat.testBit_lt_two_pow (Nat.lt_of_lt_of_le hn (Nat.pow_le_pow_right (by omega) (by omega)))
    rw [this]
    simp [h]
theorem tb_1 (i : Nat) : tb 1 i = decide (i = 0) := by
  have : (1 : Int64).toBitVec = BitVec.twoPow 64 0 := by decide +kernel
  rw [tb, this, BitVec.getLsbD_twoPow]
  by_cases h : i = 0
  · simp [h]
  · simp [h, Ne.symm h]
/-- one bit read off -/
theorem zl_bit {k : Nat} (hk : k < 64) (x : Int64) : zlushr x (nI k) &&& 1 = if tb x k then 1 else 0 := by
  apply tb_ext
  intro i hi
  rw [tb_and, tb_ushr hk, tb_1]
  by_cases h : i = 0
  · subst h
    by_cases hb : tb x k = true
    · simp [hb, tb_1]
    · simp [hb, tb_0]
  · by_cases hb : tb x k = true
    · simp [hb, tb_1, h]
    · simp [hb, tb_0, h]
theorem zl_bit1 {k : Nat} (hk : k < 64) (x : Int64) : (zlushr x (nI k) &&& 1 = 1) ↔ tb x k = true := by
  rw [zl_bit hk]
  by_cases hb : tb x k = true
  · simp [hb]
  · simp [hb]
theorem zl_bit0 {k : Nat} (hk : k < 64) (x : Int64) : (zlushr x (nI k) &&& 1 = 0) ↔ tb x k = false := by
  rw [zl_bit hk]
  by_cases hb : tb x k = true
  · simp [hb]
  · simp [hb]
theorem lg_cmp_0 (x y : Int64) : lg_cmp x y = 0 ↔ x = y := by
  unfold lg_cmp
  by_cases h : x > y
  · simp only [h, if_true]
    constructor
    · intro q; exact absurd q (by decide)
    · intro q; subst q; exact absurd h (by simp)
  · by_cases h2 : x = y
    · simp [h2]
    · simp only [h, h2, if_false]
      constructor
      · intro q; exact absurd q (by decide)
      · intro q; exact absurd q (by simp)
def zb (p : Prop) [Decidable p] : Int32 := if p then 1 else 0
theorem zb_0 {p : Prop} [Decidable p] : zb p = 0 ↔ ¬ p := by unfold zb; by_cases h : p <;> simp [h]
theorem zb_1 {p : Prop} [Decidable p] : zb p = 1 ↔ p := by unfold zb; by_cases h : p <;> simp [h]
theorem zb_01 {p : Prop} [Decidable p] : zb p = 0 ∨ zb p = 1 := by unfold zb; by_cases h : p <;> simp [h]
theorem zb_t {p : Prop} [Decidable p] (h : p) : zb p = 1 := if_pos h
theorem zb_f {p : Prop} [Decidable p] (h : ¬ p) : zb p = 0 := if_neg h
-- the same of ints
theorem bt_not (x : Int32) {i : Nat} (h : i < 32) : bt (x ^^^ (-1)) i = !(bt x i) := by rw [b_xor, b_m1 i h]; simp
theorem bt_bit {k : Nat} (hk : k < 32) (i : Nat) : bt (zishl 1 (nI k)) i = decide (i = k) := by
  unfold zishl bt
  rw [nf_sh k hk, BitVec.getLsbD_twoPow]
  by_cases h : i = k
  · simp [h, hk]
  · simp [h, Ne.symm h]
theorem tb_of32 (x : Int32) {i : Nat} (h : i < 32) : tb x.toInt64 i = bt x i := by
  unfold tb bt
  rw [Int32.toBitVec_toInt64, BitVec.getLsbD_signExtend]
  simp [h, show i < 64 by omega]
theorem tb_ext_iff {x : Int64} : x = 0 ↔ ∀ i, i < 64 → tb x i = false := ⟨fun h i _ => by rw [h, tb_0], fun h => tb_ext (fun i hi => by rw [h i hi, tb_0])⟩
theorem tb_ne0 {x : Int64} : ¬ x = 0 ↔ ∃ i, i < 64 ∧ tb x i = true := by
  rw [tb_ext_iff]
  constructor
  · intro h
    by_cases q : ∃ i, i < 64 ∧ tb x i = true
    · exact q
    · exact absurd (fun i hi => by cases hb : tb x i with | false => rfl | true => exact absurd ⟨i, hi, hb⟩ q) h
  · intro ⟨i, hi, hb⟩ h
    rw [h i hi] at hb
    cases hb
def zbc64 (a : Int64) : Int32 :=
  let a1 := a - (zlushr a 1 &&& 6148914691236517205)
  let a2 := (a1 &&& 3689348814741910323) + (zlushr a1 2 &&& 3689348814741910323)
  let a3 := (a2 + zlushr a2 4) &&& 1085102592571150095
  let a4 := a3 + zlushr a3 8
  let a5 := a4 + zlushr a4 16
  let a6 := a5 + zlushr a5 32
  a6.toInt32 &&& 127
def zbc32 (a : Int32) : Int32 :=
  let a1 := a - (ziushr a 1 &&& 1431655765)
  let a2 := (a1 &&& 858993459) + (ziushr a1 2 &&& 858993459)
  let a3 := (a2 + ziushr a2 4) &&& 252645135
  let a4 := a3 + ziushr a3 8
  let a5 := a4 + ziushr a4 16
  a5 &&& 63
def zdm (c d : Int32) : Int32 := (c % 8 - d % 8) * (c % 8 - d % 8) + (c / 8 - d / 8) * (c / 8 - d / 8)
def zdc (c d : Int32) : Int32 := ((d &&& 7) - (c &&& 7)) * ((d &&& 7) - (c &&& 7)) + ((zishr d 3) - (zishr c 3)) * ((zishr d 3) - (zishr c 3))
theorem zb_of0 {C P : Prop} [Decidable C] [Decidable P] (h : C ↔ ¬ P) : (if C then (0 : Int32) else 1) = zb P := by
  unfold zb
  by_cases hp : P
  · rw [if_pos hp, if_neg (fun c => h.mp c hp)]
  · rw [if_neg hp, if_pos (h.mpr hp)]
theorem zb_of1 {C P : Prop} [Decidable C] [Decidable P] (h : C ↔ P) : (if C then (1 : Int32) else 0) = zb P := by
  unfold zb
  by_cases hp : P
  · rw [if_pos hp, if_pos (h.mpr hp)]
  · rw [if_neg hp, if_neg (fun c => hp (h.mp c))]
