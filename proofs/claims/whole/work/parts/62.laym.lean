/-! the reference lays what measures let -/
theorem zsb8 : ∀ a, a < 8 → ∀ b, b < 8 → (nI a - nI b).toInt = (a : Int) - (b : Int) ∧ (-(nI a - nI b)).toInt = (b : Int) - (a : Int) ∧ (if 0 ≤ nI a - nI b then nI a - nI b else -(nI a - nI b)).toInt = (((a : Int) - (b : Int)).natAbs : Int) := by decide +kernel
theorem e64 (m c : Nat) : (64 : Int32) * nI m + nI c = nI (64 * m + c) := by rw [show (64 : Int32) = nI 64 from rfl, nI_mul, nI_add]
section zM9
variable {d kc ks : Nat} {σ : zSt} {A : zAb} {Q : Option zV → zSt → Prop}
theorem S_X12_isOnSide {ph : Bool} {K : Int32 → zSt → Prop} {c e p : Nat} (hc : c < 64) (he : e < 64) (hp : p ≤ 3) (hK : K (zb (zside c e p = true)) σ) : zCi ph (d + 2) 0 0 M_X12_isOnSide [.inl (nI c), .inl (nI e), .inl (nI p)] σ K := by
  have hx := zsb8 (e % 8) (by omega) (c % 8) (by omega)
  have hy := zsb8 (e / 8) (by omega) (c / 8) (by omega)
  have l0 : ∀ x : Int32, x ≤ 0 ↔ x.toInt ≤ 0 := fun x => by rw [Int32.le_iff_toInt_le, Int32.toInt_zero]
  have ll : ∀ x y : Int32, x < y ↔ x.toInt < y.toInt := fun x y => Int32.lt_iff_toInt_lt
  refine zC_intro pl_X12 (Nat.le_of_ble_eq_true rfl) (T_X12_isOnSide_0 (fun x4 h4 x6 h6 x9 h9 => ⟨_, rfl, ?_⟩))
  rw [nI_mod8 c hc, nI_mod8 e he, nI_div8 c hc, nI_div8 e he] at h4
  rw [nI_mod8 c hc, nI_mod8 e he, nI_div8 c hc, nI_div8 e he] at h6
  rw [h9, zb_of0 (P := zside c e p = true) ?_]
  · exact hK
  · rw [l0, ll]
    generalize nI (e % 8) - nI (c % 8) = X at h4 h6 hx
    generalize nI (e / 8) - nI (c / 8) = Y at h4 h6 hy
    have hp4 : p = 0 ∨ p = 1 ∨ p = 2 ∨ p = 3 := by omega
    unfold zside
    rcases hp4 with rfl | rfl | rfl | rfl
    · rw [show x4 = X from h4, show x6 = Y from h6, hx.1, hy.2.2]
      simp only [if_true, Bool.and_eq_true, decide_eq_true_eq]
      omega
    · rw [show x4 = Y from h4, show x6 = X from h6, hy.1, hx.2.2]
      simp only [Nat.one_ne_zero, if_false, if_true, Bool.and_eq_true, decide_eq_true_eq]
      omega
    · rw [show x4 = -X from h4, show x6 = Y from h6, hx.2.1, hy.2.2]
      simp
      omega
    · rw [show x4 = -Y from h4, show x6 = X from h6, hy.2.1, hx.2.2]
      simp
      omega
theorem S_X12_isKept {K : Int32 → zSt → Prop} (hW : zWf A) (hR : zRM A σ) {m c e : Nat} (hm : m < aM A) (hc : c < 64) (he : e < 64) (hh : mK A m = 4 → afree A c = true → zHr A (mQ A m) c σ) (hK : K (zb (mKeep A m c e = true)) σ) : zCi true (d + 4) 0 0 M_X12_isKept [.inr (.inr (54, 0)), .inl (nI m), .inl (nI c), .inl (nI e)] σ K := by
  have hM : aM A ≤ 60 := hW.1.2.2.2.2.2.1
  obtain ⟨r1, r2, r3, r4, r5, r6⟩ := hR.2.2.1 m hm
  obtain ⟨w1, w2, w3, w4, w5, w6, w7, w8⟩ := hW.2.2.1 m hm
  have hd := zdist_le hc he
  have hk : ∀ k : Nat, k ≤ 4 → (nI (mK A m) = nI k ↔ mK A m = k) := fun k h => nI_eq (by omega) (by omega)
  have i60 : vp_in (nI m) 60 := nI_in (by omega) (by omega)
  refine zC_intro pl_X12 (Nat.le_of_ble_eq_true rfl) (T_X12_isKept_0 ?_)
  rw [nI_clamp (show m < 2 ^ 31 by omega), r1, r4, r5, zdm_n hc he, show (0 : Int32) = nI 0 from rfl, show (1 : Int32) = nI 1 from rfl, show (2 : Int32) = nI 2 from rfl, show (3 : Int32) = nI 3 from rfl, hk 0 (by omega), hk 1 (by omega), hk 2 (by omega), hk 3 (by omega)]
  refine ⟨i60, fun k => ⟨i60, i60, _, rfl, ?_⟩, fun k => ⟨i60, fun x hx => ⟨_, rfl, ?_⟩⟩, fun k => ⟨i60, fun x hx => ⟨_, rfl, ?_⟩⟩, fun k => ⟨i60, S_X12_isOnSide hc he (w7 k) ⟨zb_01, _, rfl, ?_⟩⟩, fun k0 k1 k2 k3 => ?_⟩
  · rw [zb_iff (R := mKeep A m c e = true) (by unfold mKeep; rw [if_pos k, fa_wide_le, fa_wide_le, nI_leI (by omega) (by omega), nI_leI (by omega) (by omega)]; simp only [Bool.and_eq_true, decide_eq_true_eq])]
    exact hK
  · rw [hx, show (if nI (mQ A m) < nI (zdist c e) then nI 0 else nI 1) = zb (mKeep A m c e = true) from zb_of0 (by unfold mKeep; rw [if_neg (by omega), if_pos k, decide_eq_true_iff, nI_ltI (by omega) (by omega)]; omega)]
    exact hK
  · rw [hx, show (if nI (zdist c e) ≤ nI (mQ A m) then nI 0 else nI 1) = zb (mKeep A m c e = true) from zb_of0 (by unfold mKeep; rw [if_neg (by omega), if_neg (by omega), if_pos k, decide_eq_true_iff, nI_leI (by omega) (by omega)]; omega)]
    exact hK
  · rw [zb_iff (R := mKeep A m c e = true) (by unfold mKeep; rw [if_neg (by omega), if_neg (by omega), if_neg (by omega), if_pos k])]
    exact hK
  · have k4 : mK A m = 4 := by omega
    have hz : mKeep A m c e = hopAt A (mQ A m) c (mP A m) e := by unfold mKeep; rw [if_neg (by omega), if_neg (by omega), if_neg (by omega), if_neg (by omega)]
    refine S_X12_isFree hW hR c (by omega) ⟨fun h => ⟨_, rfl, ?_⟩, fun h => S_X12_isFree hW hR e (by omega) ⟨fun _ => nI_in (by omega) (by omega), fun _ => i60, fun x hx => ⟨_, rfl, ?_⟩⟩⟩
    · have hf : ¬ mKeep A m c e = true := fun q => (zb_0.mp h) (by rw [hz] at q; exact hopLe_from (hopAt_le q))
      rw [show nI 0 = zb (mKeep A m c e = true) from (zb_f hf).symm]
      exact hK
    · have h1 : afree A c = true := Decidable.not_not.mp (fun q => h (zb_0.mpr q))
      obtain ⟨hf, q1, q2⟩ := hh k4 h1
      rw [hx, nI_clamp (show e < 2 ^ 31 by omega), (q1 e he).1, r4]
      rw [show (if zb (afree A e = true) = nI 0 ∨ ¬ iI (hf e) = nI (mP A m) then nI 0 else nI 1) = zb (mKeep A m c e = true) from zb_of0 ?_]
      · exact hK
      · rw [hz, show nI 0 = 0 from rfl, zb_0, ← iI_nat, iI_eqI (by have := q1 e he; omega) (by omega), (q2 e he).1 (mP A m)]
        constructor
        · rintro (g | g) q
          · exact g (hopLe_free (hopAt_le q))
          · exact g q
        · exact fun g => Or.inr g
/-- a measure's rows are laid -/
def zLd (A : zAb) (σ : zSt) (m : Nat) : Prop := ∀ c, c < 64 → zgl σ 75 0 (64 * m + c) = zset (kept A m c) 64 ∧ zgl σ 76 0 (64 * m + c) = zset (fun x => kept A m x c) 64
def zLdI (A : zAb) (σ : zSt) : Prop := ∀ m, m < aM A → ¬ zgi σ 72 0 m = 0 → zLd A σ m
abbrev zLy (m : Nat) (c _j k : Nat) : Prop := c = 73 ∨ c = 74 ∨ ((c = 75 ∨ c = 76) ∧ 64 * m ≤ k ∧ k < 64 * m + 64)
abbrev zLm (m : Nat) (c j k : Nat) : Prop := zLy m c j k ∨ (c = 72 ∧ k = m)
theorem zLd.only {σ' : zSt} {m n : Nat} (h : zLd A σ m) (ho : zOnly (zLm n) σ σ') (hne : m ≠ n) : zLd A σ' m := fun c hc => by
  rw [ho.l 75 0 _ (by unfold zLm; omega), ho.l 76 0 _ (by unfold zLm; omega)]
  exact h c hc
/-- the rows at work -/
def zLw (A : zAb) (σ : zSt) (m c e : Nat) : Prop := (∀ a, a < c → zgl σ 75 0 (64 * m + a) = zset (kept A m a) 64) ∧ ∀ b, b < 64 → ∀ x, x < 64 → tb (zgl σ 76 0 (64 * m + b)) x = (kept A m x b && (decide (x < c) || (decide (x = c) && decide (b < e))))
theorem zHr.only {r c : Nat} {σ' : zSt} {M : Nat → Nat → Nat → Prop} (h : zHr A r c σ) (ho : zOnly M σ σ') (hm : ∀ k, ¬ M 73 0 k) : zHr A r c σ' := by
  obtain ⟨f, q1, q2⟩ := h
  exact ⟨f, fun x hx => by rw [ho.i 73 0 x (hm x)]; exact q1 x hx, q2⟩
theorem L_X12_lay85 (hW : zWf A) {σ0 : zSt} (hR : zRM A σ0) {m c : Nat} (hm : m < aM A) (hc : c < 64) (hnext : ∀ σ', zOnly (zLy m) σ0 σ' → zLw A σ' m (c + 1) 0 → zE true (d + 5) kc ks M_X12_layMeasure 45 [some (.inr (.inr (54, 0))), some (.inl (nI m)), some (.inl (nI (c + 1))), none, none, none] [] (σ') Q) : ∀ (n e : Nat), e + n = 64 → ∀ (σ : zSt) (y : Int64), zOnly (zLy m) σ0 σ → (mK A m = 4 → afree A c = true → zHr A (mQ A m) c σ) → zLw A σ m c e → (∀ i, i < 64 → tb y i = (decide (i < e) && kept A m c i)) → zE true (d + 5) kc ks M_X12_layMeasure 85 [some (.inr (.inr (54, 0))), some (.inl (nI m)), some (.inl (nI c)), some (.inr (.inl (y))), none, some (.inl (nI e))] [] σ Q := by
  have hM : aM A ≤ 60 := hW.1.2.2.2.2.2.1
  have hout : ∀ (σ : zSt) (y : Int64), zOnly (zLy m) σ0 σ → zLw A σ m c 64 → (∀ i, i < 64 → tb y i = kept A m c i) → zE true (d + 5) kc ks M_X12_layMeasure 151 [some (.inr (.inr (54, 0))), some (.inl (nI m)), some (.inl (nI c)), some (.inr (.inl (y))), none, none] [] σ Q := by
    intro σ y ho hw hy
    refine T_X12_layMeasure_151 ?_
    rw [e64, nI_clamp (show 64 * m + c < 2 ^ 31 by omega), ← nI_succ]
    refine ⟨nI_in (by omega) (by omega), hnext _ (ho.tr (zOnly.sl (by unfold zLy; omega))) ⟨fun a ha => ?_, fun b hb x hx => ?_⟩⟩
    · rw [zgl_sl]
      by_cases z : a = c
      · subst z
        rw [if_pos ⟨rfl, rfl, rfl⟩]
        exact zset_eq hy
      · rw [if_neg (by omega)]
        exact hw.1 a (by omega)
    · rw [zgl_sl, if_neg (by omega), hw.2 b hb x hx]
      congr 1
      by_cases z : x = c
      · subst z; simp [hb]
      · by_cases z2 : x < c
        · simp [z2, show x < c + 1 by omega]
        · simp [z, z2, show ¬ x < c + 1 by omega]
  intro n
  induction n with
  | zero =>
    intro e he σ y ho hh hw hy
    have : e = 64 := by omega
    subst this
    refine T_X12_layMeasure_85 ⟨fun _ => hout σ y ho hw (fun i hi => by rw [hy i hi]; simp [hi]), fun h => absurd (show (64 : Int32) ≤ nI 64 by decide) h⟩
  | succ n ih =>
    intro e he σ y ho hh hw hy
    have hR2 : zRM A σ := hR.only ho (fun c k hb => by unfold zBM at hb; unfold zLy; omega)
    have step : ∀ σ' y', zOnly (zLy m) σ0 σ' → (mK A m = 4 → afree A c = true → zHr A (mQ A m) c σ') → zLw A σ' m c (e + 1) → (∀ i, i < 64 → tb y' i = (decide (i < e + 1) && kept A m c i)) → zE true (d + 5) kc ks M_X12_layMeasure 85 [some (.inr (.inr (54, 0))), some (.inl (nI m)), some (.inl (nI c)), some (.inr (.inl (y'))), none, some (.inl ((nI e + 1)))] [] (σ') Q := by
      intro σ' y' o1 o2 o3 o4
      rw [← nI_succ]
      exact ih (e + 1) (by omega) σ' y' o1 o2 o3 o4
    have hsame : kept A m c e = false → zLw A σ m c (e + 1) ∧ ∀ i, i < 64 → tb y i = (decide (i < e + 1) && kept A m c i) := by
      intro hk
      refine ⟨⟨hw.1, fun b hb x hx => ?_⟩, fun i hi => ?_⟩
      · rw [hw.2 b hb x hx]
        by_cases z : x = c ∧ b = e
        · obtain ⟨rfl, rfl⟩ := z
          rw [hk]; simp
        · congr 2
          by_cases z1 : x = c
          · have : b ≠ e := fun q => z ⟨z1, q⟩
            simp only [z1, decide_true, Bool.true_and, decide_eq_decide]
            omega
          · simp [z1]
      · rw [hy i hi]
        by_cases z : i = e
        · subst z; rw [hk]; simp
        · congr 1
          rw [decide_eq_decide]; omega
    refine T_X12_layMeasure_85 ⟨fun g => ?_, fun _ => S_X12_isCell hW hR2 _ ⟨fun g => ?_, fun g => S_X12_isCell hW hR2 _ ⟨fun g2 => ?_, fun g2 => S_X12_isKept hW hR2 hm hc (by omega) hh ⟨fun g3 => ?_, fun g3 => ?_⟩⟩⟩⟩
    · rw [show (64 : Int32) = nI 64 from rfl, nI_leI (by omega) (by omega)] at g
      omega
    · rw [zb_0, acI_of (by omega)] at g
      have hk : ∀ i, kept A m c i = false := fun i => by simp [kept, g]
      refine hout σ y ho ⟨hw.1, fun b hb x hx => ?_⟩ (fun i hi => by rw [hy i hi, hk]; simp)
      rw [hw.2 b hb x hx]
      by_cases z : x = c
      · subst z; rw [hk]; simp
      · simp [z]
    · rw [zb_0, acI_of (by omega)] at g2
      have hk : kept A m c e = false := by simp [kept, g2]
      exact step σ y ho hh (hsame hk).1 (hsame hk).2
    · rw [zb_0] at g3
      have hk : kept A m c e = false := by
        unfold kept
        rw [Bool.not_eq_true] at g3
        rw [g3, Bool.and_false]
      exact step σ y ho hh (hsame hk).1 (hsame hk).2
    · rw [zb_0, Decidable.not_not] at g3
      rw [zb_0, acI_of (by omega), Decidable.not_not] at g g2
      have hk : kept A m c e = true := by simp [kept, g, g2, g3]
      rw [e64, nI_clamp (show 64 * m + e < 2 ^ 31 by omega)]
      refine ⟨nI_in (by omega) (by omega), nI_in (by omega) (by omega), step _ _ (ho.tr (zOnly.sl (by unfold zLy; omega))) (fun q1 q2 => (hh q1 q2).only (zOnly.sl (m := fun a _ _ => a = 76) rfl) (fun k q => by omega)) ⟨fun a ha => ?_, fun b hb x hx => ?_⟩ (fun i hi => ?_)⟩
      · rw [zgl_sl, if_neg (by omega)]
        exact hw.1 a ha
      · rw [zgl_sl]
        by_cases z : b = e
        · subst z
          rw [if_pos ⟨rfl, rfl, rfl⟩, tb_or, hw.2 b hb x hx, tb_bit hc]
          by_cases z1 : x = c
          · subst z1; simp [hk]
          · simp [z1]
        · rw [if_neg (by omega), hw.2 b hb x hx]
          congr 2
          by_cases z1 : x = c
          · simp only [z1, decide_true, Bool.true_and, decide_eq_decide]
            omega
          · simp [z1]
      · rw [tb_or, hy i hi, tb_bit (by omega)]
        by_cases z : i = e
        · subst z; simp [hk]
        · have : decide (i < e + 1) = decide (i < e) := by rw [decide_eq_decide]; omega
          simp [z, this]
theorem L_X12_lay45 (hW : zWf A) {σ0 : zSt} (hR : zRM A σ0) {m : Nat} (hm : m < aM A) (hQ : ∀ σ', zOnly (zLy m) σ0 σ' → zLd A σ' m → Q none σ') : ∀ (n c : Nat), c + n = 64 → ∀ (σ : zSt), zOnly (zLy m) σ0 σ → zLw A σ m c 0 → zE true (d + 5) kc ks M_X12_layMeasure 45 [some (.inr (.inr (54, 0))), some (.inl (nI m)), some (.inl (nI c)), none, none, none] [] σ Q := by
  have hM : aM A ≤ 60 := hW.1.2.2.2.2.2.1
  have k4 : nI (mK A m) = 4 ↔ mK A m = 4 := nI_eqI (b := 4) (by have := (hW.2.2.1 m hm).1; omega) (by omega)
  have r5 := (hR.2.2.1 m hm).2.2.2.2.1
  intro n
  induction n with
  | zero =>
    intro c hc σ ho hw
    have : c = 64 := by omega
    subst this
    refine T_X12_layMeasure_45 ⟨fun _ => hQ σ ho (fun c hc => ⟨hw.1 c hc, zset_eq (fun i hi => by rw [hw.2 c hc i hi]; simp [hi])⟩), fun h => absurd (show (64 : Int32) ≤ nI 64 by decide) h⟩
  | succ n ih =>
    intro c hc σ ho hw
    have hR2 : zRM A σ := hR.only ho (fun c k hb => by unfold zBM at hb; unfold zLy; omega)
    have e1 := (hR2.2.2.1 m hm).1
    have e5 := (hR2.2.2.1 m hm).2.2.2.2.1
    have hin : ∀ σ', zOnly (zLy m) σ0 σ' → (mK A m = 4 → afree A c = true → zHr A (mQ A m) c σ') → zLw A σ' m c 0 → zE true (d + 5) kc ks M_X12_layMeasure 85 [some (.inr (.inr (54, 0))), some (.inl (nI m)), some (.inl (nI c)), some (.inr (.inl (0))), none, some (.inl (0))] [] (σ') Q := fun σ' o1 o2 o3 => L_X12_lay85 hW hR hm (by omega) (fun σ2 p1 p2 => ih (c + 1) (by omega) σ2 p1 p2) 64 0 rfl σ' 0 o1 o2 o3 (fun i hi => by rw [tb_0]; simp)
    refine T_X12_layMeasure_45 ⟨fun g => ?_, fun _ => ?_⟩
    · rw [show (64 : Int32) = nI 64 from rfl, nI_leI (by omega) (by omega)] at g
      omega
    · rw [nI_clamp (show m < 2 ^ 31 by omega), e1, k4]
      refine ⟨nI_in (by omega) (by omega), fun g => hin σ ho (fun q => absurd q g) hw, fun g => S_X12_isFree hW hR2 c (by omega) ⟨fun g2 => hin σ ho (fun _ q => absurd q (zb_0.mp g2)) hw, fun g2 => ⟨nI_in (by omega) (by omega), ?_⟩⟩⟩
      rw [e5]
      rw [zb_0, Decidable.not_not] at g2
      refine S_X12_hopFrom hW hR2 g2 (hW.2.2.1 m hm).2.2.2.2.2.1 (fun σ' o1 o2 => hin σ' (ho.tr (o1.mono (fun a b k h => by unfold zHm at h; unfold zLy; omega))) (fun _ _ => o2) ⟨fun a ha => ?_, fun b hb x hx => ?_⟩)
      · rw [o1.l 75 0 _ (by unfold zHm; omega)]; exact hw.1 a ha
      · rw [o1.l 76 0 _ (by unfold zHm; omega)]; exact hw.2 b hb x hx
theorem L_X12_lay19 (hW : zWf A) {σ0 : zSt} (hR : zRM A σ0) {m : Nat} (hm : m < aM A) (hQ : ∀ σ', zOnly (zLy m) σ0 σ' → zLd A σ' m → Q none σ') : ∀ (n c : Nat), c + n = 64 → ∀ (σ : zSt), zOnly (zLy m) σ0 σ → (∀ b, b < c → zgl σ 76 0 (64 * m + b) = 0) → zE true (d + 5) kc ks M_X12_layMeasure 19 [some (.inr (.inr (54, 0))), some (.inl (nI m)), some (.inl (nI c)), none, none, none] [] σ Q := by
  have hM : aM A ≤ 60 := hW.1.2.2.2.2.2.1
  intro n
  induction n with
  | zero =>
    intro c hc σ ho hz
    have : c = 64 := by omega
    subst this
    refine T_X12_layMeasure_19 ⟨fun _ => L_X12_lay45 hW hR hm hQ 64 0 rfl σ ho ⟨fun a ha => absurd ha (Nat.not_lt_zero a), fun b hb x hx => ?_⟩, fun h => absurd (show (64 : Int32) ≤ nI 64 by decide) h⟩
    rw [hz b hb, tb_0]
    simp
  | succ n ih =>
    intro c hc σ ho hz
    refine T_X12_layMeasure_19 ⟨fun g => ?_, fun _ => ?_⟩
    · rw [show (64 : Int32) = nI 64 from rfl, nI_leI (by omega) (by omega)] at g
      omega
    · rw [e64, nI_clamp (show 64 * m + c < 2 ^ 31 by omega), ← nI_succ]
      refine ⟨nI_in (by omega) (by omega), ih (c + 1) (by omega) _ (ho.tr (zOnly.sl (by unfold zLy; omega))) (fun b hb => ?_)⟩
      rw [zgl_sl]
      by_cases z : b = c
      · rw [if_pos (by subst z; exact ⟨rfl, rfl, rfl⟩)]
      · rw [if_neg (by omega)]
        exact hz b (by omega)
theorem S_X12_layMeasure {K : zSt → Prop} (hW : zWf A) (hR : zRM A σ) {m : Nat} (hm : m < aM A) (hl : zLdI A σ) (hK : ∀ σ', zOnly (zLm m) σ σ' → zLd A σ' m → ¬ zgi σ' 72 0 m = 0 → zLdI A σ' → K σ') : zCv true (d + 5) 0 0 M_X12_layMeasure [.inr (.inr (54, 0)), .inl (nI m)] σ K := by
  have hM : aM A ≤ 60 := hW.1.2.2.2.2.2.1
  refine zC_intro pl_X12 (Nat.le_of_ble_eq_true rfl) (T_X12_layMeasure_0 ?_)
  rw [nI_clamp (show m < 2 ^ 31 by omega)]
  refine ⟨nI_in (by omega) (by omega), fun g => ⟨nI_in (by omega) (by omega), ?_⟩, fun g => ⟨rfl, hK σ zOnly.rf (hl m hm g) g hl⟩⟩
  have o0 : zOnly (zLm m) σ (zsi σ 72 0 m 1) := zOnly.si (by unfold zLm; omega)
  have hR2 : zRM A (zsi σ 72 0 m 1) := hR.only o0 (fun c k hb => by unfold zBM at hb; unfold zLm; omega)
  refine L_X12_lay19 (A := A) hW hR2 hm (Q := fun r σ' => r = none ∧ K σ') (fun σ' o1 o2 => ⟨rfl, ?_⟩) 64 0 rfl _ zOnly.rf (fun b hb => by omega)
  have o3 : zOnly (zLm m) σ σ' := o0.tr (o1.mono (fun a j k h => Or.inl h))
  have e1 : zgi σ' 72 0 m = 1 := by rw [o1.i 72 0 m (by unfold zLy; omega), zgi_si, if_pos ⟨rfl, rfl, rfl⟩]
  refine hK σ' o3 o2 (by rw [e1]; decide) (fun n hn hz => ?_)
  by_cases z : n = m
  · subst z; exact o2
  · rw [o3.i 72 0 n (by unfold zLm zLy; omega)] at hz
    exact (hl n hn hz).only o3 z
theorem L_X12_layAll (hW : zWf A) {σ0 : zSt} (hR : zRM A σ0) (hQ : ∀ σ', zOnly (fun c _ _ => 72 ≤ c ∧ c ≤ 76) σ0 σ' → (∀ m, m < aM A → zLd A σ' m) → zLdI A σ' → Q none σ') : ∀ (n k : Nat), k + n = aM A → ∀ σ : zSt, zOnly (fun c _ _ => 72 ≤ c ∧ c ≤ 76) σ0 σ → zLdI A σ → (∀ m, m < k → zLd A σ m) → zE true (d + 6) kc ks M_X12_layAll 2 [some (.inr (.inr (54, 0))), some (.inl (nI k))] [] σ Q := by
  have hM : aM A ≤ 60 := hW.1.2.2.2.2.2.1
  intro n
  induction n with
  | zero =>
    intro k hk σ ho hl hd
    have hR2 : zRM A σ := hR.only ho (fun c k hb => by unfold zBM at hb; omega)
    have : k = aM A := by omega
    subst this
    exact T_X12_layAll_2 ⟨fun _ => hQ σ ho hd hl, fun h => absurd (by rw [hR2.1.2.2.2.1]; exact Int32.le_refl _) h⟩
  | succ n ih =>
    intro k hk σ ho hl hd
    have hR2 : zRM A σ := hR.only ho (fun c k hb => by unfold zBM at hb; omega)
    refine T_X12_layAll_2 ⟨fun g => ?_, fun _ => S_X12_layMeasure hW hR2 (by omega) hl (fun σ' o1 o2 o3 o4 => ?_)⟩
    · rw [hR2.1.2.2.2.1, nI_leI (by omega) (by omega)] at g
      omega
    · rw [← nI_succ]
      refine ih (k + 1) (by omega) σ' (ho.tr (o1.mono (fun a j e h => by unfold zLm zLy at h; omega))) o4 (fun m hm => ?_)
      by_cases z : m = k
      · subst z; exact o2
      · exact (hd m (by omega)).only o1 z
theorem S_X12_layAll {K : zSt → Prop} (hW : zWf A) (hR : zRM A σ) (hl : zLdI A σ) (hK : ∀ σ', zOnly (fun c _ _ => 72 ≤ c ∧ c ≤ 76) σ σ' → (∀ m, m < aM A → zLd A σ' m) → zLdI A σ' → K σ') : zCv true (d + 6) 0 0 M_X12_layAll [.inr (.inr (54, 0))] σ K :=
  zC_intro pl_X12 (Nat.le_of_ble_eq_true rfl) (T_X12_layAll_0 (L_X12_layAll hW hR (fun σ' h1 h2 h3 => ⟨rfl, hK σ' h1 h2 h3⟩) (aM A) 0 (by omega) σ zOnly.rf hl (fun m hm => absurd hm (Nat.not_lt_zero m))))
theorem zl_b1 {k : Nat} (hk : k < 64) (p : Nat → Bool) : zb (zlushr (zset p 64) (nI k) &&& 1 = 1) = zb (p k = true) := zb_iff (by rw [zl_bit1 hk, tb_set hk])
/-- whether two cells keep a measure -/
theorem O_X12_keeps {K : Int32 → zSt → Prop} (hW : zWf A) (hR : zRM A σ) (hl : zLdI A σ) (a b e : Int32) (hno : ¬ (mI A a = true ∧ acI A b = true ∧ acI A e = true) → K (-1) σ)
    (hyes : ∀ m c x, m < aM A → c < 64 → x < 64 → a = nI m → b = nI c → e = nI x → acell A c = true → acell A x = true → ∀ σ', zOnly (fun c _ _ => 72 ≤ c ∧ c ≤ 76) σ σ' → zLdI A σ' → K (zb (kept A m c x = true)) σ') : zCi true (d + 6) 0 0 M_X12_keeps [.inr (.inr (54, 0)), .inl (a), .inl (b), .inl (e)] σ K := by
  have hM : aM A ≤ 60 := hW.1.2.2.2.2.2.1
  refine zC_intro pl_X12 (Nat.le_of_ble_eq_true rfl) (T_X12_keeps_0 (S_X12_noMeasure hW hR a ⟨fun h => ⟨_, rfl, hno ?_⟩, fun h => S_X12_isCell hW hR b ⟨fun h2 => ⟨_, rfl, hno ?_⟩, fun h2 => S_X12_isCell hW hR e ⟨fun h3 => ?_, fun h3 => ⟨_, rfl, hno ?_⟩⟩⟩⟩))
  · rw [zb_0] at h
    exact fun q => h (fun z => z q.1)
  · rw [zb_0] at h2
    exact fun q => h2 q.2.1
  · rw [zb_0, Decidable.not_not] at h h2 h3
    obtain ⟨m, hm, rfl⟩ := mI_nI h
    obtain ⟨c, hc, hac, rfl⟩ := acI_nI h2
    obtain ⟨x, hx, hax, rfl⟩ := acI_nI h3
    refine S_X12_layMeasure hW hR hm hl (fun σ' o1 o2 o3 o4 => ?_)
    rw [e64, nI_clamp (show 64 * m + c < 2 ^ 31 by omega), (o2 c hc).1, zl_b1 hx]
    refine ⟨nI_in (by omega) (by omega), fun y hy => ⟨_, rfl, ?_⟩⟩
    rw [hy, zb_of0 (P := kept A m c x = true) (by rw [zb_0])]
    exact hyes m c x hm hc hx rfl rfl rfl hac hax σ' (o1.mono (fun a j k h => by unfold zLm zLy at h; omega)) o4
  · rw [zb_0] at h3
    exact fun q => h3 q.2.2
end zM9
