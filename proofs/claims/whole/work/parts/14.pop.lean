/-! the counting of bits by halves -/
theorem sw_and (q b m c : Nat) (hb : b < 256) (hc : c < 256) : (256 * q + b) &&& (256 * m + c) = 256 * (q &&& m) + (b &&& c) := by
  have hbc : b &&& c < 2 ^ 8 := Nat.and_lt_two_pow _ hc
  apply Nat.eq_of_testBit_eq
  intro i
  rw [Nat.testBit_and, show (256 : Nat) = 2 ^ 8 from rfl, Nat.testBit_two_pow_mul_add q hb, Nat.testBit_two_pow_mul_add m hc, Nat.testBit_two_pow_mul_add _ hbc]
  by_cases h : i < 8
  · simp [h]
  · simp [h]
def swM (c : Nat) : Nat → Nat
  | 0 => 0
  | k + 1 => 256 * swM c k + c
def swA (k n : Nat) : Nat := n - ((n / 2) &&& swM 0x55 k)
def swB (k n : Nat) : Nat := (n &&& swM 0x33 k) + ((n / 4) &&& swM 0x33 k)
def swC (k n : Nat) : Nat := (n + n / 16) &&& swM 0x0f k
def sw1 (b : Nat) : Nat := b - ((b / 2) &&& 0x55)
def sw2 (b : Nat) : Nat := (b &&& 0x33) + ((b / 4) &&& 0x33)
def sw3 (b : Nat) : Nat := (b + b / 16) &&& 0x0f
theorem sw_m1 : ∀ e : Fin 2, ∀ b : Fin 256, (128 * e.val + b.val / 2) &&& 0x55 = (b.val / 2) &&& 0x55 := by decide +kernel
theorem sw_m2 : ∀ e : Fin 4, ∀ b : Fin 256, (64 * e.val + b.val / 4) &&& 0x33 = (b.val / 4) &&& 0x33 := by decide +kernel
theorem sw_m3 : ∀ e : Fin 5, ∀ b : Fin 69, (b.val + (16 * e.val + b.val / 16)) &&& 0x0f = (b.val + b.val / 16) &&& 0x0f := by decide +kernel
theorem sw_b1 : ∀ b : Fin 256, sw1 b.val < 256 ∧ (b.val / 2) &&& 0x55 ≤ b.val := by decide +kernel
theorem sw_b2 : ∀ b : Fin 256, sw2 (sw1 b.val) < 69 ∧ sw2 (sw1 b.val) % 16 < 5 := by decide +kernel
theorem sw_b3 : ∀ b : Fin 256, sw3 (sw2 (sw1 b.val)) = fb_ct (b.val.testBit) 8 := by decide +kernel
theorem swA_s (k q b : Nat) (hb : b < 256) : swA (k + 1) (256 * q + b) = 256 * swA k q + sw1 b := by
  unfold swA sw1
  rw [show swM 0x55 (k + 1) = 256 * swM 0x55 k + 0x55 from rfl]
  have e : (256 * q + b) / 2 = 256 * (q / 2) + (128 * (q % 2) + b / 2) := by omega
  rw [e, sw_and _ _ _ _ (by omega) (by omega), sw_m1 ⟨q % 2, by omega⟩ ⟨b, hb⟩]
  have h1 : (q / 2) &&& swM 0x55 k ≤ q := Nat.le_trans Nat.and_le_left (by omega)
  have h2 := (sw_b1 ⟨b, hb⟩).2
  simp only at h2 ⊢
  omega
theorem swB_s (k q b : Nat) (hb : b < 256) : swB (k + 1) (256 * q + b) = 256 * swB k q + sw2 b := by
  unfold swB sw2
  rw [show swM 0x33 (k + 1) = 256 * swM 0x33 k + 0x33 from rfl]
  have e : (256 * q + b) / 4 = 256 * (q / 4) + (64 * (q % 4) + b / 4) := by omega
  rw [e, sw_and q b _ _ hb (by omega), sw_and _ _ _ _ (by omega) (by omega), sw_m2 ⟨q % 4, by omega⟩ ⟨b, hb⟩]
  simp only
  omega
theorem swC_s (k q b : Nat) (hb : b < 69) (hq : q % 16 < 5) : swC (k + 1) (256 * q + b) = 256 * swC k q + sw3 b := by
  unfold swC sw3
  rw [show swM 0x0f (k + 1) = 256 * swM 0x0f k + 0x0f from rfl]
  have e : 256 * q + b + (256 * q + b) / 16 = 256 * (q + q / 16) + (b + (16 * (q % 16) + b / 16)) := by omega
  rw [e, sw_and _ _ _ _ (by omega) (by omega), sw_m3 ⟨q % 16, hq⟩ ⟨b, hb⟩]
/-- the bytes' counts, beside each other -/
def swP : Nat → Nat → Nat
  | 0, _ => 0
  | k + 1, n => 256 * swP k (n / 256) + fb_ct ((n % 256).testBit) 8
theorem sw_low : ∀ (k n : Nat), n < 256 ^ k → swB k (swA k n) % 16 < 5
  | 0, n, h => by
    have : n = 0 := by simpa using h
    subst this
    decide
  | k + 1, n, h => by
    have hb : n % 256 < 256 := Nat.mod_lt _ (by omega)
    have e : n = 256 * (n / 256) + n % 256 := by omega
    rw [e, swA_s _ _ _ hb, swB_s _ _ _ (sw_b1 ⟨_, hb⟩).1]
    have : sw2 (sw1 (n % 256)) % 16 < 5 := (sw_b2 ⟨_, hb⟩).2
    clear e
    generalize sw2 (sw1 (n % 256)) = u at this ⊢
    generalize swB k (swA k (n / 256)) = v
    omega
theorem sw_all : ∀ (k n : Nat), n < 256 ^ k → swC k (swB k (swA k n)) = swP k n
  | 0, n, h => by simp [swC, swM, swP]
  | k + 1, n, h => by
    have hb : n % 256 < 256 := Nat.mod_lt _ (by omega)
    have e : n = 256 * (n / 256) + n % 256 := by omega
    have hk : n / 256 < 256 ^ k := by rw [Nat.pow_succ] at h; omega
    conv => lhs; rw [e]
    rw [swA_s _ _ _ hb, swB_s _ _ _ (sw_b1 ⟨_, hb⟩).1, swC_s _ _ _ (sw_b2 ⟨_, hb⟩).1 (sw_low k _ hk), sw_all k _ hk, sw_b3 ⟨_, hb⟩]
    rfl
/-- all bits' count is the bytes' sum -/
def swS : Nat → Nat → Nat
  | 0, _ => 0
  | k + 1, n => swS k (n / 256) + fb_ct ((n % 256).testBit) 8
theorem swS_ct : ∀ (k n : Nat), swS k n = fb_ct (n.testBit) (8 * k)
  | 0, n => rfl
  | k + 1, n => by
    rw [swS, swS_ct k, show 8 * (k + 1) = 8 + 8 * k by omega, fb_ct_split, Nat.add_comm]
    congr 1
    · exact fb_ct_cong (fun i hi => by rw [show (256 : Nat) = 2 ^ 8 from rfl, Nat.testBit_mod_two_pow]; simp [hi])
    · exact fb_ct_cong (fun i hi => by rw [show (256 : Nat) = 2 ^ 8 from rfl, Nat.testBit_div_two_pow, Nat.add_comm])
theorem sw_ct8 (n : Nat) : fb_ct (n.testBit) 8 ≤ 8 := fb_ct_le _ 8
theorem sw_dv {x p : Nat} (h : p < 256) : (256 * x + p) / 256 = x := by omega
theorem sw_e8 {a0 a1 a2 a3 a4 a5 a6 a7 p0 p1 p2 p3 p4 p5 p6 p7 : Nat} (e0 : a0 = 256 * a1 + p0) (e1 : a1 = 256 * a2 + p1) (e2 : a2 = 256 * a3 + p2) (e3 : a3 = 256 * a4 + p3) (e4 : a4 = 256 * a5 + p4) (e5 : a5 = 256 * a6 + p5) (e6 : a6 = 256 * a7 + p6) (e7 : a7 = p7)
    (h0 : p0 ≤ 8) (h1 : p1 ≤ 8) (h2 : p2 ≤ 8) (h3 : p3 ≤ 8) (h4 : p4 ≤ 8) (h5 : p5 ≤ 8) (h6 : p6 ≤ 8) (h7 : p7 ≤ 8) :
    (a0 + a0 / 256 + (a0 + a0 / 256) / 65536 + (a0 + a0 / 256 + (a0 + a0 / 256) / 65536) / 4294967296) % 128 = p7 + p6 + p5 + p4 + p3 + p2 + p1 + p0 := by
  have d1 : a0 / 256 = a1 := by rw [e0]; exact sw_dv (by omega)
  have d2 : (a0 + a1) / 65536 = a2 + a3 := by
    have : a0 + a1 = 65536 * (a2 + a3) + (256 * (p1 + p2) + (p0 + p1)) := by omega
    rw [this]; clear this; omega
  have d3 : (a0 + a1 + (a2 + a3)) / 4294967296 = a4 + a5 + a6 + a7 := by
    have f0 : a0 = 4294967296 * a4 + (16777216 * p3 + 65536 * p2 + 256 * p1 + p0) := by omega
    have f1 : a1 = 4294967296 * a5 + (16777216 * p4 + 65536 * p3 + 256 * p2 + p1) := by omega
    have f2 : a2 = 4294967296 * a6 + (16777216 * p5 + 65536 * p4 + 256 * p3 + p2) := by omega
    have f3 : a3 = 4294967296 * a7 + (16777216 * p6 + 65536 * p5 + 256 * p4 + p3) := by omega
    have : a0 + a1 + (a2 + a3) = 4294967296 * (a4 + a5 + a6 + a7) + (16777216 * (p3 + p4 + p5 + p6) + 65536 * (p2 + p3 + p4 + p5) + 256 * (p1 + p2 + p3 + p4) + (p0 + p1 + p2 + p3)) := by
      rw [f0, f1, f2, f3]; clear d1 d2 e0 e1 e2 e3 e4 e5 e6 e7 f0 f1 f2 f3; omega
    rw [this]
    clear this f0 f1 f2 f3 d1 d2 e0 e1 e2 e3 e4 e5 e6 e7
    omega
  rw [d1, d2, d3]
  clear d1 d2 d3
  have : a0 + a1 + (a2 + a3) + (a4 + a5 + a6 + a7) = 128 * (2 * (a1 + a2 + a3 + a4 + a5 + a6 + a7)) + (p7 + p6 + p5 + p4 + p3 + p2 + p1 + p0) := by omega
  rw [this]
  clear this e0 e1 e2 e3 e4 e5 e6 e7
  omega
theorem sw_e4 {a0 a1 a2 a3 p0 p1 p2 p3 : Nat} (e0 : a0 = 256 * a1 + p0) (e1 : a1 = 256 * a2 + p1) (e2 : a2 = 256 * a3 + p2) (e3 : a3 = p3)
    (h0 : p0 ≤ 8) (h1 : p1 ≤ 8) (h2 : p2 ≤ 8) (h3 : p3 ≤ 8) :
    (a0 + a0 / 256 + (a0 + a0 / 256) / 65536) % 64 = p3 + p2 + p1 + p0 := by
  have d1 : a0 / 256 = a1 := by rw [e0]; exact sw_dv (by omega)
  have d2 : (a0 + a1) / 65536 = a2 + a3 := by
    have : a0 + a1 = 65536 * (a2 + a3) + (256 * (p1 + p2) + (p0 + p1)) := by omega
    rw [this]; clear this; omega
  rw [d1, d2]
  clear d1 d2
  have : a0 + a1 + (a2 + a3) = 64 * (4 * (a1 + a2 + a3)) + (p3 + p2 + p1 + p0) := by omega
  rw [this]
  clear this e0 e1 e2 e3
  omega
theorem sw_fin8 (n : Nat) : (let a := swP 8 n; let b := a + a / 256; let c := b + b / 65536; (c + c / 4294967296) % 128) = swS 8 n := by
  refine (sw_e8 (a0 := swP 8 n) (a1 := swP 7 (n / 256)) (a2 := swP 6 (n / 256 / 256)) (a3 := swP 5 (n / 256 / 256 / 256)) (a4 := swP 4 (n / 256 / 256 / 256 / 256)) (a5 := swP 3 (n / 256 / 256 / 256 / 256 / 256)) (a6 := swP 2 (n / 256 / 256 / 256 / 256 / 256 / 256)) (a7 := swP 1 (n / 256 / 256 / 256 / 256 / 256 / 256 / 256)) rfl rfl rfl rfl rfl rfl rfl (Nat.zero_add _) (sw_ct8 _) (sw_ct8 _) (sw_ct8 _) (sw_ct8 _) (sw_ct8 _) (sw_ct8 _) (sw_ct8 _) (sw_ct8 _)).trans ?_
  simp only [swS, Nat.zero_add]
theorem sw_fin4 (n : Nat) : (let a := swP 4 n; let b := a + a / 256; (b + b / 65536) % 64) = swS 4 n := by
  refine (sw_e4 (a0 := swP 4 n) (a1 := swP 3 (n / 256)) (a2 := swP 2 (n / 256 / 256)) (a3 := swP 1 (n / 256 / 256 / 256)) rfl rfl rfl (Nat.zero_add _) (sw_ct8 _) (sw_ct8 _) (sw_ct8 _) (sw_ct8 _)).trans ?_
  simp only [swS, Nat.zero_add]
theorem lN_i32 (a : Nat) : (lN a).toInt32 = nI a := by
  apply Int32.toBitVec_inj.mp
  rw [Int64.toBitVec_toInt32, wb_tb]
  show BitVec.signExtend 32 (BitVec.ofNat 64 a) = BitVec.ofNat 32 a
  apply BitVec.eq_of_getLsbD_eq
  intro i hi
  rw [BitVec.getLsbD_signExtend, BitVec.getLsbD_ofNat, BitVec.getLsbD_ofNat]
  simp [hi, show i < 64 by omega]
theorem sw_c64 {n : Nat} (hn : n < 2 ^ 64) : zbc64 (lN n) = nI (swS 8 n) := by
  unfold zbc64
  have k1 : (1 : Int32) = nI 1 := rfl
  have k2 : (2 : Int32) = nI 2 := rfl
  have k4 : (4 : Int32) = nI 4 := rfl
  have k8 : (8 : Int32) = nI 8 := rfl
  have k16 : (16 : Int32) = nI 16 := rfl
  have k32 : (32 : Int32) = nI 32 := rfl
  have m5 : (6148914691236517205 : Int64) = lN (swM 0x55 8) := rfl
  have m3 : (3689348814741910323 : Int64) = lN (swM 0x33 8) := rfl
  have mf : (1085102592571150095 : Int64) = lN (swM 0x0f 8) := rfl
  have v5 : swM 0x55 8 = 6148914691236517205 := rfl
  have v3 : swM 0x33 8 = 3689348814741910323 := rfl
  have vf : swM 0x0f 8 = 1085102592571150095 := rfl
  simp only [zlushr]
  rw [m5, m3, mf, k1, k2, k4, k8, k16, k32]
  rw [wb_shr hn (by omega), wb_and (by omega) (by rw [v5]; omega), lN_sub (Nat.le_trans Nat.and_le_left (by omega)), show n - (n / 2 ^ 1 &&& swM 0x55 8) = swA 8 n from rfl]
  have b1 : swA 8 n < 2 ^ 64 := Nat.lt_of_le_of_lt (Nat.sub_le _ _) hn
  rw [wb_shr b1 (by omega), wb_and b1 (by rw [v3]; omega), wb_and (by omega) (by rw [v3]; omega), lN_add, show (swA 8 n &&& swM 0x33 8) + (swA 8 n / 2 ^ 2 &&& swM 0x33 8) = swB 8 (swA 8 n) from rfl]
  have b2 : swB 8 (swA 8 n) ≤ 2 * 3689348814741910323 := by
    have h1 : swA 8 n &&& swM 0x33 8 ≤ swM 0x33 8 := Nat.and_le_right
    have h2 : swA 8 n / 4 &&& swM 0x33 8 ≤ swM 0x33 8 := Nat.and_le_right
    rw [v3] at h1 h2
    show (swA 8 n &&& swM 0x33 8) + (swA 8 n / 4 &&& swM 0x33 8) ≤ _
    rw [v3]; omega
  rw [wb_shr (by omega) (by omega), lN_add, wb_and (by omega) (by rw [vf]; omega), show (swB 8 (swA 8 n) + swB 8 (swA 8 n) / 2 ^ 4) &&& swM 0x0f 8 = swC 8 (swB 8 (swA 8 n)) from rfl]
  have b3 : swC 8 (swB 8 (swA 8 n)) ≤ 1085102592571150095 := by
    have h1 : (swB 8 (swA 8 n) + swB 8 (swA 8 n) / 16) &&& swM 0x0f 8 ≤ swM 0x0f 8 := Nat.and_le_right
    rw [vf] at h1
    show (swB 8 (swA 8 n) + swB 8 (swA 8 n) / 16) &&& swM 0x0f 8 ≤ _
    rw [vf]; exact h1
  rw [sw_all 8 n (by simpa using hn)] at b3 ⊢
  rw [wb_shr (by omega) (by omega), lN_add, wb_shr (by omega) (by omega), lN_add, wb_shr (by omega) (by omega), lN_add, lN_i32]
  rw [show (127 : Int32) = nI (2 ^ 7 - 1) from rfl, fa_mask]
  congr 1
  exact sw_fin8 n
theorem zbc64_ct (x : Int64) : zbc64 x = nI (fb_ct (tb x) 64) := by
  obtain ⟨n, hn, rfl⟩ := wb_of x
  rw [sw_c64 hn, swS_ct]
  congr 1
  exact fb_ct_cong (fun i hi => by rw [tb, wb_tb, BitVec.getLsbD_ofNat]; simp [hi])
theorem nI_sub {a b : Nat} (h : b ≤ a) : nI a - nI b = nI (a - b) := by
  have e : nI a = nI (a - b) + nI b := by rw [← nI_add', Nat.sub_add_cancel h]
  rw [e]
  apply Int32.toBitVec_inj.mp
  rw [Int32.toBitVec_sub, Int32.toBitVec_add, BitVec.add_sub_cancel]
where nI_add' (a b : Nat) : nI (a + b) = nI a + nI b := Int32.ofNat_add a b
theorem zu_shr {a k : Nat} (ha : a < 2 ^ 32) (hk : k < 32) : ziushr (nI a) (nI k) = nI (a / 2 ^ k) := by
  apply b_ext
  intro i hi
  unfold ziushr
  rw [b_ushr k hk]
  have e : ∀ (z j : Nat), j < 32 → bt (nI z) j = z.testBit j := by
    intro z j hj
    show (BitVec.ofNat 32 z).getLsbD j = _
    rw [BitVec.getLsbD_ofNat]; simp [hj]
  rw [e _ _ hi, Nat.testBit_div_two_pow, Nat.add_comm]
  by_cases h : i + k < 32
  · exact e _ _ h
  · rw [b_big (by omega)]
    symm
    exact Nat.testBit_lt_two_pow (Nat.lt_of_lt_of_le ha (Nat.pow_le_pow_right (by omega) (by omega)))
theorem zbc32_ct (x : Int32) : zbc32 x = nI (fb_ct (bt x) 32) := by
  obtain ⟨n, hn, rfl⟩ := wb_of32 x
  have key : zbc32 (nI n) = nI (swS 4 n) := by
    unfold zbc32
    have k1 : (1 : Int32) = nI 1 := rfl
    have k2 : (2 : Int32) = nI 2 := rfl
    have k4 : (4 : Int32) = nI 4 := rfl
    have k8 : (8 : Int32) = nI 8 := rfl
    have k16 : (16 : Int32) = nI 16 := rfl
    have m5 : (1431655765 : Int32) = nI (swM 0x55 4) := rfl
    have m3 : (858993459 : Int32) = nI (swM 0x33 4) := rfl
    have mf : (252645135 : Int32) = nI (swM 0x0f 4) := rfl
    have v5 : swM 0x55 4 = 1431655765 := rfl
    have v3 : swM 0x33 4 = 858993459 := rfl
    have vf : swM 0x0f 4 = 252645135 := rfl
    have nadd : ∀ a b : Nat, nI a + nI b = nI (a + b) := fun a b => (Int32.ofNat_add a b).symm
    simp only []
    rw [m5, m3, mf, k1, k2, k4, k8, k16]
    rw [zu_shr hn (by omega), fa_and, nI_sub (Nat.le_trans Nat.and_le_left (by omega)), show n - (n / 2 ^ 1 &&& swM 0x55 4) = swA 4 n from rfl]
    have b1 : swA 4 n < 2 ^ 32 := Nat.lt_of_le_of_lt (Nat.sub_le _ _) hn
    rw [zu_shr b1 (by omega), fa_and, fa_and, nadd, show (swA 4 n &&& swM 0x33 4) + (swA 4 n / 2 ^ 2 &&& swM 0x33 4) = swB 4 (swA 4 n) from rfl]
    have b2 : swB 4 (swA 4 n) ≤ 2 * 858993459 := by
      have h1 : swA 4 n &&& swM 0x33 4 ≤ swM 0x33 4 := Nat.and_le_right
      have h2 : swA 4 n / 4 &&& swM 0x33 4 ≤ swM 0x33 4 := Nat.and_le_right
      rw [v3] at h1 h2
      show (swA 4 n &&& swM 0x33 4) + (swA 4 n / 4 &&& swM 0x33 4) ≤ _
      rw [v3]; omega
    rw [zu_shr (by omega) (by omega), nadd, fa_and, show (swB 4 (swA 4 n) + swB 4 (swA 4 n) / 2 ^ 4) &&& swM 0x0f 4 = swC 4 (swB 4 (swA 4 n)) from rfl]
    have b3 : swC 4 (swB 4 (swA 4 n)) ≤ 252645135 := by
      have h1 : (swB 4 (swA 4 n) + swB 4 (swA 4 n) / 16) &&& swM 0x0f 4 ≤ swM 0x0f 4 := Nat.and_le_right
      rw [vf] at h1
      show (swB 4 (swA 4 n) + swB 4 (swA 4 n) / 16) &&& swM 0x0f 4 ≤ _
      rw [vf]; exact h1
    rw [sw_all 4 n (by simpa using hn)] at b3 ⊢
    rw [zu_shr (by omega) (by omega), nadd, zu_shr (by omega) (by omega), nadd]
    rw [show (63 : Int32) = nI (2 ^ 6 - 1) from rfl, fa_mask]
    congr 1
    exact sw_fin4 n
  rw [key, swS_ct]
  congr 1
  exact fb_ct_cong (fun i hi => by show _ = (BitVec.ofNat 32 n).getLsbD i; rw [BitVec.getLsbD_ofNat]; simp [hi])
/-- the lowest place of a set, as the class finds it -/
theorem zlow {x : Int64} {k : Nat} (hk : k < 64) (h1 : tb x k = true) (h2 : ∀ i, i < k → tb x i = false) : zbc64 ((x &&& -x) - 1) = nI k := by
  have e : (x &&& -x).toBitVec = BitVec.twoPow 64 k := by
    rw [Int64.toBitVec_and, Int64.toBitVec_neg]
    apply BitVec.eq_of_getLsbD_eq
    intro i hi
    rw [BitVec.getLsbD_and, BitVec.getLsbD_neg, BitVec.getLsbD_twoPow]
    rcases Nat.lt_trichotomy i k with h | h | h
    · have := h2 i h
      unfold tb at this
      rw [this]
      simp [show ¬ k = i by omega]
    · subst h
      have hn : ¬ ∃ j, j < i ∧ x.toBitVec.getLsbD j = true := by
        intro ⟨j, hj, hb⟩
        have := h2 j hj
        unfold tb at this
        rw [this] at hb
        cases hb
      unfold tb at h1
      simp [h1, hi, hn]
    · have hy : ∃ j, j < i ∧ x.toBitVec.getLsbD j = true := ⟨k, h, h1⟩
      cases hb : x.toBitVec.getLsbD i
      · simp [show ¬ k = i by omega]
      · simp [hi, hy, show ¬ k = i by omega]
  have e2 : x &&& -x = lN (2 ^ k) := by
    apply wb_inj
    rw [e, wb_tb]
    apply BitVec.eq_of_toNat_eq
    simp [BitVec.toNat_twoPow]
  have hp : 0 < 2 ^ k := Nat.two_pow_pos k
  rw [e2, show (1 : Int64) = lN 1 from rfl, lN_sub (by omega), zbc64_ct]
  congr 1
  have hb : ∀ i, i < 64 → tb (lN (2 ^ k - 1)) i = decide (i < k) := by
    intro i hi
    rw [tb, wb_tb, BitVec.getLsbD_ofNat, Nat.testBit_two_pow_sub_one]
    simp [hi]
  rw [fb_ct_cong (q := fun i => decide (i < k)) hb, show 64 = k + (64 - k) by omega, fb_ct_split]
  rw [fb_ct_all.mpr (fun i hi => by simp [hi]), fb_ct_zero.mpr (fun i hi => by simp)]
  omega
