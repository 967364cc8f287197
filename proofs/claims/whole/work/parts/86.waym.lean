/-! ways of movers (reference): rows of cells, tick by tick -/
/-- how many rows go on from a cell, r ticks before the last one -/
noncomputable def wyG (A : zAb) (v : Nat) : Nat → Nat → Nat
  | 0, c => if gB A (mO A) (vF A v + (vT A v - 1)) c = true then 1 else 0
  | r + 1, c => if gB A (mO A) (vF A v + (vT A v - 1 - (r + 1))) c = true then fb_sm (fun e => if zdist c e ≤ vR A v then wyG A v r e else 0) 64 else 0
noncomputable def wyT (A : zAb) (v : Nat) : Nat := fb_sm (wyG A v (vT A v - 1)) 64
theorem wyG_le (A : zAb) (v : Nat) : ∀ r c, wyG A v r c ≤ 64 ^ r
  | 0, c => by unfold wyG; split <;> omega
  | r + 1, c => by
    unfold wyG
    split
    · have := fb_sm_bound (f := fun e => if zdist c e ≤ vR A v then wyG A v r e else 0) (c := 64 ^ r) (n := 64) (fun k _ => by
        show (if zdist c k ≤ vR A v then wyG A v r k else 0) ≤ 64 ^ r
        split
        · exact wyG_le A v r k
        · exact Nat.zero_le _)
      rw [Nat.pow_succ]
      omega
    · exact Nat.zero_le _
theorem wyT_le {A : zAb} (hW : zWf A) {v : Nat} (hv : v < aV A) : wyT A v ≤ 64 ^ 8 := by
  have w := hW.2.2.2 v hv
  have h1 := fb_sm_bound (f := wyG A v (vT A v - 1)) (c := 64 ^ (vT A v - 1)) (n := 64) (fun k _ => wyG_le A v _ k)
  have h2 : 64 ^ (vT A v - 1) ≤ 64 ^ 7 := Nat.pow_le_pow_right (by decide) (by omega)
  have h3 : (64 : Nat) ^ 8 = 64 * 64 ^ 7 := by decide
  unfold wyT
  rw [h3]
  exact Nat.le_trans h1 (Nat.mul_le_mul_left 64 h2)
/-- the rows that may follow a cell (or begin), at a tick -/
noncomputable def wyH (A : zAb) (v k : Nat) (last : Int) (c : Nat) : Nat := if last < 0 ∨ zdist last.toNat c ≤ vR A v then wyG A v (vT A v - 1 - k) c else 0
/-- the cell that holds a number, counted along -/
def pkN (f : Nat → Nat) (x : Nat) : Nat := (zfst (fun c => decide (x < fb_sm f (c + 1))) 64).toNat
noncomputable def wyS (A : zAb) (v : Nat) (n : Nat) : Nat → Int × Nat
  | 0 => (-1, n)
  | k + 1 => ((pkN (wyH A v k (wyS A v n k).1) (wyS A v n k).2 : Nat), (wyS A v n k).2 - fb_sm (wyH A v k (wyS A v n k).1) (pkN (wyH A v k (wyS A v n k).1) (wyS A v n k).2))
theorem pkN_ok {f : Nat → Nat} {x : Nat} (h : x < fb_sm f 64) : pkN f x < 64 ∧ fb_sm f (pkN f x) ≤ x ∧ x < fb_sm f (pkN f x + 1) := by
  obtain ⟨c, h1, h2, h3⟩ := fb_first (p := fun c => x < fb_sm f (c + 1)) (n := 64) ⟨63, by omega, h⟩
  have e : pkN f x = c := by
    unfold pkN
    rw [zfst_some (k := c) (by rw [decide_eq_true_eq]; exact h2) (fun i hi => by rw [decide_eq_false_iff_not]; exact h3 i hi) h1]
    rfl
  rw [e]
  refine ⟨h1, ?_, h2⟩
  cases c with
  | zero => exact Nat.zero_le _
  | succ c =>
    have := h3 c (by omega)
    omega
theorem lN_ad (a b : Nat) : lN a + lN b = lN (a + b) := (Int64.ofNat_add a b).symm
theorem lN_sb {a b : Nat} (h : b ≤ a) : lN a - lN b = lN (a - b) := by
  have e : lN (a - b) + lN b = lN a := by rw [lN_ad]; congr 1; omega
  rw [← e]
  simp
theorem lN_ltt {a b : Nat} (ha : a < 2 ^ 62) (hb : b < 2 ^ 62) : lN a < lN b ↔ a < b := by
  rw [Int64.lt_iff_toInt_lt, lN_ti (by omega), lN_ti (by omega), if_pos (by omega), if_pos (by omega)]
  omega
theorem lN_lee {a b : Nat} (ha : a < 2 ^ 62) (hb : b < 2 ^ 62) : lN a ≤ lN b ↔ a ≤ b := by
  rw [Int64.le_iff_toInt_le, lN_ti (by omega), lN_ti (by omega), if_pos (by omega), if_pos (by omega)]
  omega
theorem lg_cmp_lee (x y : Int64) : 0 ≤ lg_cmp x y ↔ y ≤ x := by
  unfold lg_cmp
  have e1 : (y < x) ↔ y.toInt < x.toInt := Int64.lt_iff_toInt_lt
  have e2 : (y ≤ x) ↔ y.toInt ≤ x.toInt := Int64.le_iff_toInt_le
  have e3 : (x = y) ↔ x.toInt = y.toInt := Int64.toInt_inj.symm
  by_cases h : x > y
  · rw [if_pos h]
    exact ⟨fun _ => e2.mpr (by have := e1.mp h; omega), fun _ => by decide⟩
  · rw [if_neg h]
    have h2 : ¬ y.toInt < x.toInt := fun q => h (e1.mpr q)
    by_cases h3 : x = y
    · rw [if_pos h3]
      exact ⟨fun _ => e2.mpr (by have := e3.mp h3; omega), fun _ => by decide⟩
    · rw [if_neg h3]
      exact ⟨fun q => absurd q (by decide), fun q => absurd (e2.mp q) (by have : ¬ x.toInt = y.toInt := fun z => h3 (e3.mpr z); omega)⟩
/-- rows laid from tick k on -/
def zWy (A : zAb) (σ : zSt) (v k : Nat) : Prop := ∀ t, k ≤ t → t < vT A v → ∀ c, c < 64 → zgl σ 89 0 (64 * t + c) = lN (wyG A v (vT A v - 1 - t) c)
section zMw
variable {d kc ks : Nat} {σ : zSt} {A : zAb} {Q : Option zV → zSt → Prop}
theorem L_X12_lay105 (hW : zWf A) {v t c : Nat} (hv : v < aV A) (ht : t < vT A v) (hc : c < 64) (hR : zRM A σ) (hX : zLf A σ 79 (gB A (mO A))) {x : Nat} (hx : gB A (mO A) (vF A v + t) c = true → x = (if t = vT A v - 1 then 1 else fb_sm (fun e => if zdist c e ≤ vR A v then wyG A v (vT A v - 1 - (t + 1)) e else 0) 64)) (hnext : zE true (d + 9) kc ks M_X12_layWays 22 [some (.inr (.inr (54, 0))), some (.inl (nI v)), some (.inl (nI (vT A v))), some (.inl (nI t)), some (.inl (nI (c + 1))), none, none, none] [] (zsl σ 89 0 (64 * t + c) (lN (wyG A v (vT A v - 1 - t) c))) Q) : zE true (d + 9) kc ks M_X12_layWays 105 [some (.inr (.inr (54, 0))), some (.inl (nI v)), some (.inl (nI (vT A v))), some (.inl (nI t)), some (.inl (nI c)), some (.inr (.inl (lN x))), none, none] [] σ Q := by
  have hV : aV A ≤ 3 := hW.1.2.2.2.2.2.2
  have hN : aN A ≤ 24 := hW.1.2.2.2.2.1
  have w := hW.2.2.2 v hv
  refine T_X12_layWays_105 ?_
  rw [nI_clamp (show v < 2 ^ 31 by omega), (hR.2.2.2 v hv).1, nI_add, nI_clamp (show vF A v + t < 2 ^ 31 by omega), hX _ (by omega), zl_b1 hc, e64, nI_clamp (show 64 * t + c < 2 ^ 31 by omega), ← nI_succ]
  refine ⟨nI_in (by omega) (by omega), nI_in (by omega) (by omega), fun y hy => ⟨nI_in (by omega) (by omega), ?_⟩⟩
  have ey : y = lN (wyG A v (vT A v - 1 - t) c) := by
    rw [hy]
    by_cases z : gB A (mO A) (vF A v + t) c = true
    · rw [if_neg (by rw [zb_0]; exact fun q => q z), hx z]
      congr 1
      by_cases e : t = vT A v - 1
      · rw [if_pos e, show vT A v - 1 - t = 0 by omega]
        unfold wyG
        rw [← e, if_pos z]
      · rw [if_neg e, show vT A v - 1 - t = (vT A v - 1 - (t + 1)) + 1 by omega]
        show _ = if gB A (mO A) (vF A v + (vT A v - 1 - (vT A v - 1 - (t + 1) + 1))) c = true then _ else 0
        rw [show vT A v - 1 - (vT A v - 1 - (t + 1) + 1) = t by omega, if_pos z]
    · rw [if_pos (by rw [zb_0]; exact z)]
      have : wyG A v (vT A v - 1 - t) c = 0 := by
        by_cases e : t = vT A v - 1
        · rw [show vT A v - 1 - t = 0 by omega]
          unfold wyG
          rw [← e, if_neg z]
        · rw [show vT A v - 1 - t = (vT A v - 1 - (t + 1)) + 1 by omega]
          show (if gB A (mO A) (vF A v + (vT A v - 1 - (vT A v - 1 - (t + 1) + 1))) c = true then _ else 0) = 0
          rw [show vT A v - 1 - (vT A v - 1 - (t + 1) + 1) = t by omega, if_neg z]
      rw [this]
      rfl
  rw [ey]
  exact hnext
theorem L_X12_lay46 (hW : zWf A) {v t c : Nat} (hv : v < aV A) (ht : t < vT A v - 1) (hc : c < 64) (hR : zRM A σ) (hX : zLf A σ 79 (gB A (mO A))) (hY : zWy A σ v (t + 1)) (hnext : zE true (d + 9) kc ks M_X12_layWays 22 [some (.inr (.inr (54, 0))), some (.inl (nI v)), some (.inl (nI (vT A v))), some (.inl (nI t)), some (.inl (nI (c + 1))), none, none, none] [] (zsl σ 89 0 (64 * t + c) (lN (wyG A v (vT A v - 1 - t) c))) Q) : ∀ (n e : Nat), e + n = 64 → zE true (d + 9) kc ks M_X12_layWays 46 [some (.inr (.inr (54, 0))), some (.inl (nI v)), some (.inl (nI (vT A v))), some (.inl (nI t)), some (.inl (nI c)), some (.inr (.inl (lN (fb_sm (fun e => if zdist c e ≤ vR A v then wyG A v (vT A v - 1 - (t + 1)) e else 0) e)))), none, some (.inl (nI e))] [] σ Q := by
  have hV : aV A ≤ 3 := hW.1.2.2.2.2.2.2
  have w := hW.2.2.2 v hv
  intro n
  induction n with
  | zero =>
    intro e he
    have : e = 64 := by omega
    subst this
    exact T_X12_layWays_46 ⟨fun _ => L_X12_lay105 hW hv (by omega) hc hR hX (fun _ => by rw [if_neg (by omega)]) hnext, fun h => absurd (show (64 : Int32) ≤ nI 64 by decide) h⟩
  | succ n ih =>
    intro e he
    have c1 : (nI (vT A v) - 1 ≤ nI t) ↔ vT A v - 1 ≤ t := by rw [show (1 : Int32) = nI 1 from rfl, nI_sub (by omega)]; exact nI_leI (by omega) (by omega)
    refine T_X12_layWays_46 ⟨fun g => ?_, fun _ => ⟨fun g => ?_, fun _ => ?_⟩⟩
    · rw [show (64 : Int32) = nI 64 from rfl, nI_leI (by omega) (by omega)] at g
      omega
    · rw [c1] at g
      omega
    · have hd := zdist_le hc (show e < 64 by omega)
      rw [nI_clamp (show v < 2 ^ 31 by omega), (hR.2.2.2 v hv).2.2, zdm_n hc (by omega), ← nI_succ, e64, nI_clamp (show 64 * (t + 1) + e < 2 ^ 31 by omega), hY (t + 1) (by omega) (by omega) e (by omega)]
      refine ⟨nI_in (by omega) (by omega), fun _ => nI_in (by omega) (by omega), fun x hx => ?_⟩
      have cd : nI (vR A v) < nI (zdist c e) ↔ vR A v < zdist c e := nI_ltI (by omega) (by omega)
      have ex : x = lN (if zdist c e ≤ vR A v then wyG A v (vT A v - 1 - (t + 1)) e else 0) := by
        rw [hx]
        by_cases z : zdist c e ≤ vR A v
        · rw [if_neg (fun q => by have := cd.mp q; omega), if_pos z]
        · rw [if_pos (cd.mpr (by omega)), if_neg z]
          rfl
      rw [ex, lN_ad, ← nI_succ, ← fb_sm_succ (fun e => if zdist c e ≤ vR A v then wyG A v (vT A v - 1 - (t + 1)) e else 0)]
      exact ih (e + 1) (by omega)
theorem L_X12_lay22 (hW : zWf A) {v t : Nat} (hv : v < aV A) (ht : t < vT A v) {σ0 : zSt} (hR : zRM A σ0) (hX : zLf A σ0 79 (gB A (mO A))) (hnext : ∀ σ', zOnly (fun c _ _ => c = 89) σ0 σ' → zWy A σ' v t → zE true (d + 9) kc ks M_X12_layWays 15 [some (.inr (.inr (54, 0))), some (.inl (nI v)), some (.inl (nI (vT A v))), some (.inl (iI ((t : Int) - 1))), none, none, none, none] [] (σ') Q) : ∀ (n c : Nat), c + n = 64 → ∀ σ : zSt, zOnly (fun c _ _ => c = 89) σ0 σ → zWy A σ v (t + 1) → (∀ x, x < c → zgl σ 89 0 (64 * t + x) = lN (wyG A v (vT A v - 1 - t) x)) → zE true (d + 9) kc ks M_X12_layWays 22 [some (.inr (.inr (54, 0))), some (.inl (nI v)), some (.inl (nI (vT A v))), some (.inl (nI t)), some (.inl (nI c)), none, none, none] [] σ Q := by
  have hV : aV A ≤ 3 := hW.1.2.2.2.2.2.2
  have w := hW.2.2.2 v hv
  intro n
  induction n with
  | zero =>
    intro c hc σ ho hY hz
    have : c = 64 := by omega
    subst this
    refine T_X12_layWays_22 ⟨fun _ => ?_, fun h => absurd (show (64 : Int32) ≤ nI 64 by decide) h⟩
    rw [← iI_nat t, show (-1 : Int32) = iI (-1) from rfl, iI_add]
    refine hnext σ ho (fun t' h1 h2 x hx => ?_)
    by_cases e : t' = t
    · subst e; exact hz x hx
    · exact hY t' (by omega) h2 x hx
  | succ n ih =>
    intro c hc σ ho hY hz
    have hR2 : zRM A σ := hR.only ho (fun c k hb => by unfold zBM at hb; omega)
    have hX2 : zLf A σ 79 (gB A (mO A)) := fun u hu => by rw [ho.l 79 0 u (by omega)]; exact hX u hu
    have next := ih (c + 1) (by omega) (zsl σ 89 0 (64 * t + c) (lN (wyG A v (vT A v - 1 - t) c))) (ho.tr (zOnly.sl rfl)) (fun t' h1 h2 x hx => by rw [zgl_sl, if_neg (by omega)]; exact hY t' h1 h2 x hx) (fun x hx => by
      rw [zgl_sl]
      by_cases e : x = c
      · rw [if_pos ⟨rfl, rfl, by omega⟩, e]
      · rw [if_neg (by omega)]
        exact hz x (by omega))
    have cl : (nI t = nI (vT A v) - 1) ↔ t = vT A v - 1 := by rw [show (1 : Int32) = nI 1 from rfl, nI_sub (by omega)]; exact nI_eq (by omega) (by omega)
    refine T_X12_layWays_22 ⟨fun g => ?_, fun _ x hx => ?_⟩
    · rw [show (64 : Int32) = nI 64 from rfl, nI_leI (by omega) (by omega)] at g
      omega
    · by_cases e : t = vT A v - 1
      · have ex : x = lN 1 := by rw [hx, if_neg (fun q => q (cl.mpr e))]; rfl
        rw [ex]
        have c1 : (nI (vT A v) - 1 ≤ nI t) := by rw [show (1 : Int32) = nI 1 from rfl, nI_sub (by omega), nI_leI (by omega) (by omega)]; omega
        exact T_X12_layWays_46 ⟨fun g => absurd g (by decide), fun _ => ⟨fun _ => L_X12_lay105 hW hv ht (by omega) hR2 hX2 (fun _ => by rw [if_pos e]) next, fun g => absurd c1 g⟩⟩
      · have ex : x = lN (fb_sm (fun e => if zdist c e ≤ vR A v then wyG A v (vT A v - 1 - (t + 1)) e else 0) 0) := by rw [hx, if_pos (fun q => e (cl.mp q))]; rfl
        rw [ex]
        exact L_X12_lay46 hW hv (by omega) (by omega) hR2 hX2 hY next 64 0 rfl
theorem L_X12_lay15 (hW : zWf A) {v : Nat} (hv : v < aV A) {σ0 : zSt} (hR : zRM A σ0) (hX : zLf A σ0 79 (gB A (mO A))) (hQ : ∀ σ', zOnly (fun c _ _ => c = 89) σ0 σ' → zWy A σ' v 0 → Q none σ') : ∀ (n : Nat), n ≤ vT A v → ∀ σ : zSt, zOnly (fun c _ _ => c = 89) σ0 σ → zWy A σ v n → zE true (d + 9) kc ks M_X12_layWays 15 [some (.inr (.inr (54, 0))), some (.inl (nI v)), some (.inl (nI (vT A v))), some (.inl (iI ((n : Int) - 1))), none, none, none, none] [] σ Q := by
  have w := hW.2.2.2 v hv
  intro n
  induction n with
  | zero =>
    intro _ σ ho hY
    exact T_X12_layWays_15 ⟨fun _ => hQ σ ho hY, fun g => absurd (show iI (((0 : Nat) : Int) - 1) < 0 by decide) g⟩
  | succ n ih =>
    intro hn σ ho hY
    rw [show (((n + 1 : Nat) : Int) - 1) = (n : Int) by omega, iI_nat]
    refine T_X12_layWays_15 ⟨fun g => ?_, fun _ => L_X12_lay22 hW hv (by omega) hR hX (fun σ' o1 y1 => ih (by omega) σ' o1 y1) 64 0 rfl σ ho hY (fun x hx => absurd hx (Nat.not_lt_zero x))⟩
    rw [show (0 : Int32) = nI 0 from rfl, nI_ltI (by omega) (by omega)] at g
    omega
abbrev zQw (c j k : Nat) : Prop := zQm c j k ∨ c = 89
theorem S_X12_layWays {K : zSt → Prop} (hW : zWf A) (hR : zRM A σ) (hC : zCM A σ) {v : Nat} (hv : v < aV A) (hK : ∀ σ', zOnly zQw σ σ' → zCM A σ' → zWy A σ' v 0 → K σ') : zCv true (d + 9) 0 0 M_X12_layWays [.inr (.inr (54, 0)), .inl (nI v)] σ K := by
  have hV : aV A ≤ 3 := hW.1.2.2.2.2.2.2
  have w := hW.2.2.2 v hv
  refine zC_intro pl_X12 (Nat.le_of_ble_eq_true rfl) (T_X12_layWays_0 (S_X12_findNarrowed hW hR hC (fun σ1 o1 c1 x1 => ?_)))
  have hR1 := hR.q o1
  rw [nI_clamp (show v < 2 ^ 31 by omega), (hR1.2.2.2 v hv).2.1]
  refine ⟨nI_in (by omega) (by omega), ?_⟩
  have := L_X12_lay15 (d := d) (kc := 0) (ks := 0) (Q := fun r σ' => r = none ∧ K σ') hW hv hR1 x1 (fun σ' o2 y2 => ⟨rfl, hK σ' ((o1.mono (fun c j k h => Or.inl h)).tr (o2.mono (fun c j k h => Or.inr h))) (c1.only o2 (fun c k h => by unfold zQm at h; omega)) y2⟩) (vT A v) (Nat.le_refl _) σ1 zOnly.rf (fun t h1 h2 => absurd h2 (by omega))
  have e : nI (vT A v) - 1 = iI ((vT A v : Int) - 1) := by rw [← iI_nat, show (1 : Int32) = iI 1 from rfl, iI_sub]
  rw [e]
  exact this
theorem L_X12_waysOf (hW : zWf A) {v : Nat} (hv : v < aV A) (hY : zWy A σ v 0) (hQ : Q (some (.inr (.inl (lN (wyT A v))))) σ) : ∀ (n c : Nat), c + n = 64 → zE true (d + 10) kc ks M_X12_waysOf 10 [some (.inr (.inr (54, 0))), none, some (.inr (.inl (lN (fb_sm (wyG A v (vT A v - 1)) c)))), none, some (.inl (nI c))] [] σ Q := by
  have w := hW.2.2.2 v hv
  intro n
  induction n with
  | zero =>
    intro c hc
    have : c = 64 := by omega
    subst this
    exact T_X12_waysOf_10 ⟨fun _ => hQ, fun h => absurd (show (64 : Int32) ≤ nI 64 by decide) h⟩
  | succ n ih =>
    intro c hc
    have y := hY 0 (Nat.zero_le _) (by omega) c (by omega)
    rw [Nat.mul_zero, Nat.zero_add, Nat.sub_zero] at y
    refine T_X12_waysOf_10 ⟨fun g => ?_, fun _ => ?_⟩
    · rw [show (64 : Int32) = nI 64 from rfl, nI_leI (by omega) (by omega)] at g
      omega
    · rw [nI_clamp (show c < 2 ^ 31 by omega), y, lN_ad, ← nI_succ, ← fb_sm_succ]
      exact ⟨nI_in (by omega) (by omega), ih (c + 1) (by omega)⟩
theorem S_X12_waysOf {K : Int64 → zSt → Prop} (hW : zWf A) (hR : zRM A σ) (hC : zCM A σ) {v : Nat} (hv : v < aV A) (hK : ∀ σ', zOnly zQw σ σ' → zCM A σ' → zWy A σ' v 0 → K (lN (wyT A v)) σ') : zCl true (d + 10) 0 0 M_X12_waysOf [.inr (.inr (54, 0)), .inl (nI v)] σ K :=
  zC_intro pl_X12 (Nat.le_of_ble_eq_true rfl) (T_X12_waysOf_0 (S_X12_layWays hW hR hC hv (fun σ' o1 c1 y1 => L_X12_waysOf (A := A) (Q := fun r σ' => ∃ x, r = some (.inr (.inl x)) ∧ K x σ') hW hv y1 ⟨_, rfl, hK σ' o1 c1 y1⟩ 64 0 rfl)))
theorem vI_z (hW : zWf A) (a : Int32) : (0 ≤ a.toInt64 ∧ a.toInt64 ≤ (nI (aV A)).toInt64 - 1) ↔ vI A a = true := by
  have hV : aV A ≤ 3 := hW.1.2.2.2.2.2.2
  rw [zin_n a (by omega)]
  simp [vI]
theorem O_X12_ways {K : Int64 → zSt → Prop} (hW : zWf A) (hR : zRM A σ) (hC : zCM A σ) (a : Int32) (hno : ¬ vI A a = true → K (-9223372036854775808) σ) (hyes : ∀ v, v < aV A → a = nI v → ∀ σ', zOnly zQw σ σ' → zCM A σ' → K (lN (wyT A v)) σ') : zCl true (d + 11) 0 0 M_X12_ways [.inr (.inr (54, 0)), .inl (a)] σ K := by
  refine zC_intro pl_X12 (Nat.le_of_ble_eq_true rfl) (T_X12_ways_0 ?_)
  rw [hR.1.2.2.2.2.1, zb_0, vI_z hW]
  refine ⟨fun g => ⟨_, rfl, hno g⟩, fun g => ?_⟩
  obtain ⟨v, hv, rfl⟩ := vI_nI (Decidable.not_not.mp g)
  exact S_X12_waysOf hW hR hC hv (fun σ' o1 c1 _ => ⟨_, rfl, hyes v hv rfl σ' o1 c1⟩)
/-- the walk along the rows -/
theorem wyS_inv (hW : zWf A) {v n : Nat} (hv : v < aV A) (hn : n < wyT A v) : ∀ k, k ≤ vT A v → (∀ i, i < k → True) ∧ (k < vT A v → (wyS A v n k).2 < fb_sm (wyH A v k (wyS A v n k).1) 64) ∧ (0 < k → 0 ≤ (wyS A v n k).1 ∧ (wyS A v n k).1 < 64) ∧ ((wyS A v n k).2 ≤ n)
  | 0, _ => by
    refine ⟨fun _ _ => trivial, fun _ => ?_, fun h => absurd h (Nat.lt_irrefl 0), Nat.le_refl n⟩
    show n < fb_sm (wyH A v 0 (-1)) 64
    have e : fb_sm (wyH A v 0 (-1)) 64 = wyT A v := fb_sm_cong (fun c _ => by
      unfold wyH
      rw [if_pos (Or.inl (by omega)), Nat.sub_zero])
    rw [e]; exact hn
  | k + 1, hk => by
    obtain ⟨-, h2, h3, h4⟩ := wyS_inv hW hv hn k (by omega)
    have h2 := h2 (by omega)
    obtain ⟨p1, p2, p3⟩ := pkN_ok h2
    have e1 : (wyS A v n (k + 1)).1 = (pkN (wyH A v k (wyS A v n k).1) (wyS A v n k).2 : Nat) := rfl
    have e2 : (wyS A v n (k + 1)).2 = (wyS A v n k).2 - fb_sm (wyH A v k (wyS A v n k).1) (pkN (wyH A v k (wyS A v n k).1) (wyS A v n k).2) := rfl
    refine ⟨fun _ _ => trivial, fun hk2 => ?_, fun _ => by rw [e1]; omega, by rw [e2]; omega⟩
    rw [e2, e1]
    generalize pkN (wyH A v k (wyS A v n k).1) (wyS A v n k).2 = c at p1 p2 p3
    rw [fb_sm_succ] at p3
    have le1 : wyH A v k (wyS A v n k).1 c ≤ wyG A v (vT A v - 1 - k) c := by
      unfold wyH
      split
      · exact Nat.le_refl _
      · exact Nat.zero_le _
    have le2 : wyG A v (vT A v - 1 - k) c ≤ fb_sm (wyH A v (k + 1) (c : Int)) 64 := by
      have ek : vT A v - 1 - k = (vT A v - 1 - (k + 1)) + 1 := by omega
      rw [ek]
      show (if _ then fb_sm (fun e => if zdist c e ≤ vR A v then wyG A v (vT A v - 1 - (k + 1)) e else 0) 64 else 0) ≤ _
      split
      · refine Nat.le_of_eq (fb_sm_cong (fun e _ => ?_))
        unfold wyH
        by_cases z : zdist c e ≤ vR A v
        · rw [if_pos z, if_pos (Or.inr (by rw [Int.toNat_natCast]; exact z))]
        · rw [if_neg z, if_neg (by rw [Int.toNat_natCast]; omega)]
      · exact Nat.zero_le _
    omega
theorem wyS_le (hW : zWf A) {v n : Nat} (hv : v < aV A) (hn : n < wyT A v) (k : Nat) (hk : k ≤ vT A v) : (wyS A v n k).2 < 2 ^ 62 := by
  have h := (wyS_inv hW hv hn k hk).2.2.2
  have := wyT_le hW hv
  have e : (64 : Nat) ^ 8 = 2 ^ 48 := by decide
  have e2 : (2 : Nat) ^ 48 < 2 ^ 62 := by decide
  omega
theorem wyH_le (v k : Nat) (last : Int) (c : Nat) (hk : k ≤ 8) (hT : vT A v ≤ 8) : wyH A v k last c < 2 ^ 62 := by
  unfold wyH
  have h := wyG_le A v (vT A v - 1 - k) c
  have h2 : 64 ^ (vT A v - 1 - k) ≤ 64 ^ 7 := Nat.pow_le_pow_right (by decide) (by omega)
  have e : (64 : Nat) ^ 7 = 2 ^ 42 := by decide
  have e2 : (2 : Nat) ^ 42 < 2 ^ 62 := by decide
  split <;> omega
theorem L_X12_way49s (hW : zWf A) (hR : zRM A σ) {v t k c x : Nat} {last : Int} (hv : v < aV A) (hY : zWy A σ v 0) (hk : k < vT A v) (hc : c < 64) (hx : x < 2 ^ 62) (hl : -1 ≤ last ∧ last < 64) (h1 : x < wyH A v k last c → zE true (d + 11) kc ks M_X12_way 49 [some (.inr (.inr (54, 0))), some (.inl (nI v)), none, none, some (.inl (nI t)), some (.inr (.inl (lN x))), none, some (.inl (iI last)), some (.inl (nI k)), some (.inl (nI c)), some (.inl (1)), none, none] [] σ Q) (h0 : wyH A v k last c ≤ x → zE true (d + 11) kc ks M_X12_way 49 [some (.inr (.inr (54, 0))), some (.inl (nI v)), none, none, some (.inl (nI t)), some (.inr (.inl (lN (x - wyH A v k last c)))), none, some (.inl (iI last)), some (.inl (nI k)), some (.inl (nI (c + 1))), some (.inl (0)), none, none] [] σ Q) : zE true (d + 11) kc ks M_X12_way 49 [some (.inr (.inr (54, 0))), some (.inl (nI v)), none, none, some (.inl (nI t)), some (.inr (.inl (lN x))), none, some (.inl (iI last)), some (.inl (nI k)), some (.inl (nI c)), some (.inl (0)), none, none] [] σ Q := by
  have hV : aV A ≤ 3 := hW.1.2.2.2.2.2.2
  have w := hW.2.2.2 v hv
  have ll := wyH_le (A := A) v k last c (by omega) (by omega)
  have g92 : zE true (d + 11) kc ks M_X12_way 92 [some (.inr (.inr (54, 0))), some (.inl (nI v)), none, none, some (.inl (nI t)), some (.inr (.inl (lN x))), none, some (.inl (iI last)), some (.inl (nI k)), some (.inl (nI c)), none, none, none] [.inr (.inl (lN (wyH A v k last c)))] σ Q := by
    refine T_X12_way_92 (fun y hy => T_X12_way_107 (fun a ha => T_X12_way_122 (fun b hb => ?_)))
    have ey : (0 ≤ lg_cmp (lN x) (lN (wyH A v k last c))) ↔ wyH A v k last c ≤ x := by rw [lg_cmp_lee, lN_lee ll hx]
    by_cases z : wyH A v k last c ≤ x
    · have y0 : y = 0 := by rw [hy, if_pos (ey.mpr z)]
      rw [y0] at ha hb ⊢
      rw [if_pos rfl] at ha hb
      rw [ha, hb, lN_sb z, ← nI_succ]
      exact h0 z
    · have y1 : y = 1 := by rw [hy, if_neg (fun q => z (ey.mp q))]
      rw [y1] at ha hb ⊢
      rw [if_neg (by decide)] at ha hb
      rw [ha, hb]
      have e1 : lN x - 0 = lN x := by simp
      have e2 : nI c + 0 = nI c := by simp
      rw [e1, e2]
      exact h1 (by omega)
  have cl : (iI last < 0) ↔ last < 0 := iI_lt (b := 0) (by omega) (by omega)
  refine T_X12_way_49 ⟨fun g => absurd rfl g, fun _ => ⟨fun _ => nI_in (by omega) (by omega), fun g => T_X12_way_75 ?_, fun g => ?_⟩⟩
  · rw [cl] at g
    have gz : last < 0 ∨ zdist last.toNat c ≤ vR A v := by
      rcases g with g | g
      · exact Or.inl g
      · by_cases z : last < 0
        · exact Or.inl z
        · refine Or.inr ?_
          have el : iI last = nI last.toNat := by rw [← iI_nat]; congr 1; omega
          rw [nI_clamp (show v < 2 ^ 31 by omega), (hR.2.2.2 v hv).2.2, el, zdm_n (by omega) hc] at g
          have hd := zdist_le (show last.toNat < 64 by omega) hc
          rw [nI_ltI (by omega) (by omega)] at g
          omega
    rw [e64, nI_clamp (show 64 * k + c < 2 ^ 31 by omega), hY k (Nat.zero_le _) hk c hc]
    have e : wyG A v (vT A v - 1 - k) c = wyH A v k last c := by unfold wyH; rw [if_pos gz]
    rw [e]
    exact ⟨nI_in (by omega) (by omega), g92⟩
  · rw [cl] at g
    have gz : ¬ (last < 0 ∨ zdist last.toNat c ≤ vR A v) := by
      rintro (z | z)
      · exact g (Or.inl z)
      · by_cases z2 : last < 0
        · exact g (Or.inl z2)
        · apply g
          refine Or.inr ?_
          have el : iI last = nI last.toNat := by rw [← iI_nat]; congr 1; omega
          have hd := zdist_le (show last.toNat < 64 by omega) hc
          rw [nI_clamp (show v < 2 ^ 31 by omega), (hR.2.2.2 v hv).2.2, el, zdm_n (by omega) hc, nI_ltI (by omega) (by omega)]
          omega
    have e : wyH A v k last c = 0 := by unfold wyH; rw [if_neg gz]
    rw [e] at g92
    exact g92
theorem L_X12_way49 (hW : zWf A) (hR : zRM A σ) {v n t k : Nat} (hv : v < aV A) (hn : n < wyT A v) (hY : zWy A σ v 0) (hk : k < vT A v) (hnext : zE true (d + 11) kc ks M_X12_way 36 [some (.inr (.inr (54, 0))), some (.inl (nI v)), none, none, some (.inl (nI t)), some (.inr (.inl (lN (wyS A v n (k + 1)).2))), none, some (.inl (iI (wyS A v n (k + 1)).1)), some (.inl (nI (k + 1))), none, none, none, none] [] σ Q) : ∀ (r c : Nat), c + r = pkN (wyH A v k (wyS A v n k).1) (wyS A v n k).2 → zE true (d + 11) kc ks M_X12_way 49 [some (.inr (.inr (54, 0))), some (.inl (nI v)), none, none, some (.inl (nI t)), some (.inr (.inl (lN ((wyS A v n k).2 - fb_sm (wyH A v k (wyS A v n k).1) c)))), none, some (.inl (iI (wyS A v n k).1)), some (.inl (nI k)), some (.inl (nI c)), some (.inl (0)), none, none] [] σ Q := by
  have hV : aV A ≤ 3 := hW.1.2.2.2.2.2.2
  have w := hW.2.2.2 v hv
  obtain ⟨-, h2, h3, h4⟩ := wyS_inv hW hv hn k (by omega)
  have h2 := h2 hk
  have p := pkN_ok h2
  have hlast : -1 ≤ (wyS A v n k).1 ∧ (wyS A v n k).1 < 64 := by
    by_cases z : 0 < k
    · have := h3 z; omega
    · have : k = 0 := by omega
      subst this
      show -1 ≤ (-1 : Int) ∧ (-1 : Int) < 64
      omega
  have lsm := wyS_le hW hv hn k (by omega)
  have e1 : (wyS A v n (k + 1)).1 = (pkN (wyH A v k (wyS A v n k).1) (wyS A v n k).2 : Nat) := rfl
  have e2 : (wyS A v n (k + 1)).2 = (wyS A v n k).2 - fb_sm (wyH A v k (wyS A v n k).1) (pkN (wyH A v k (wyS A v n k).1) (wyS A v n k).2) := rfl
  intro r
  induction r with
  | zero =>
    intro c hc
    have hc0 : c = pkN (wyH A v k (wyS A v n k).1) (wyS A v n k).2 := by omega
    rw [← hc0] at p e1 e2
    obtain ⟨p1, p2, p3⟩ := p
    rw [fb_sm_succ] at p3
    refine L_X12_way49s hW hR hv hY hk p1 (by omega) hlast (fun _ => T_X12_way_49 ⟨fun _ => ?_, fun g => absurd g (by decide)⟩) (fun g => by omega)
    rw [e1, e2, iI_nat] at hnext
    rw [← nI_succ]
    exact hnext
  | succ r ih =>
    intro c hc
    have m1 : fb_sm (wyH A v k (wyS A v n k).1) (c + 1) ≤ fb_sm (wyH A v k (wyS A v n k).1) (pkN (wyH A v k (wyS A v n k).1) (wyS A v n k).2) := by
      have := fb_sm_mono (wyH A v k (wyS A v n k).1) (c + 1) r
      rw [show c + 1 + r = pkN (wyH A v k (wyS A v n k).1) (wyS A v n k).2 by omega] at this
      exact this
    rw [fb_sm_succ] at m1
    refine L_X12_way49s hW hR hv hY hk (by omega) (by omega) hlast (fun g => by omega) (fun _ => ?_)
    have := ih (c + 1) (by omega)
    rw [fb_sm_succ, Nat.sub_add_eq] at this
    exact this
theorem L_X12_way36 (hW : zWf A) (hR : zRM A σ) {v n t : Nat} (hv : v < aV A) (hn : n < wyT A v) (hY : zWy A σ v 0) (ht : t < vT A v) (hQ : Q (some (.inl (iI (wyS A v n (t + 1)).1))) σ) : ∀ (r k : Nat), k + r = t + 1 → zE true (d + 11) kc ks M_X12_way 36 [some (.inr (.inr (54, 0))), some (.inl (nI v)), none, none, some (.inl (nI t)), some (.inr (.inl (lN (wyS A v n k).2))), none, some (.inl (iI (wyS A v n k).1)), some (.inl (nI k)), none, none, none, none] [] σ Q := by
  have w := hW.2.2.2 v hv
  intro r
  induction r with
  | zero =>
    intro k hk
    have : k = t + 1 := by omega
    subst this
    refine T_X12_way_36 ⟨fun _ => hQ, fun g => absurd ?_ g⟩
    rw [nI_ltI (by omega) (by omega)]
    omega
  | succ r ih =>
    intro k hk
    refine T_X12_way_36 ⟨fun g => ?_, fun _ => ?_⟩
    · rw [nI_ltI (by omega) (by omega)] at g
      omega
    · have := L_X12_way49 (d := d) (kc := kc) (ks := ks) (Q := Q) hW hR (t := t) hv hn hY (show k < vT A v by omega) (ih (k + 1) (by omega)) (pkN (wyH A v k (wyS A v n k).1) (wyS A v n k).2) 0 (Nat.zero_add _)
      exact this
theorem lN_of {x : Int64} (h : 0 ≤ x.toInt) : x = lN x.toInt.toNat := by
  rw [← Int64.toInt_inj, lN_ti (by have := fb_rngL x; omega), if_pos (by have := fb_rngL x; omega)]
  omega
theorem O_X12_way {K : Int32 → zSt → Prop} (hW : zWf A) (hR : zRM A σ) (hC : zCM A σ) (a : Int32) (x : Int64) (b : Int32) (hno : ¬ (vI A a = true ∧ 0 ≤ b.toInt ∧ b.toInt < vT A a.toInt.toNat) → K (-1) σ) (hyes : ∀ v t, v < aV A → t < vT A v → a = nI v → b = nI t → ∀ σ', zOnly zQw σ σ' → zCM A σ' → (¬ (0 ≤ x.toInt ∧ x.toInt < wyT A v) → K (-1) σ') ∧ ∀ n, n < wyT A v → x = lN n → K (iI (wyS A v n (t + 1)).1) σ') : zCi true (d + 11) 0 0 M_X12_way [.inr (.inr (54, 0)), .inl (a), .inr (.inl (x)), .inl (b)] σ K := by
  refine zC_intro pl_X12 (Nat.le_of_ble_eq_true rfl) (T_X12_way_0 (S_X12_noTick hW hR a b ⟨fun g => ⟨_, rfl, hno (fun z => g (zb_0.mpr (fun q => q z)))⟩, fun g => ?_⟩))
  rw [zb_0, Decidable.not_not] at g
  obtain ⟨g1, g2, g3⟩ := g
  obtain ⟨v, hv, rfl⟩ := vI_nI g1
  have hV : aV A ≤ 3 := hW.1.2.2.2.2.2.2
  rw [nI_toInt (show v < 2 ^ 31 by omega), Int.toNat_natCast] at g3
  obtain ⟨t, ht, rfl⟩ : ∃ t : Nat, t < vT A v ∧ b = nI t := ⟨b.toInt.toNat, by omega, zI_of g2⟩
  have w := hW.2.2.2 v hv
  have hT := wyT_le hW hv
  have e48 : (64 : Nat) ^ 8 = 281474976710656 := by decide
  rw [e48] at hT
  refine S_X12_waysOf hW hR hC hv (fun σ' o1 c1 y1 => ?_)
  have hR1 : zRM A σ' := hR.only o1 (fun c k hb => by unfold zBM at hb; unfold zQw zQm; omega)
  have hy := hyes v t hv ht rfl rfl σ' o1 c1
  have e0 : (0 : Int64).toInt = 0 := rfl
  have e1 : (1 : Int64).toInt = 1 := rfl
  have eT : (lN (wyT A v)).toInt = (wyT A v : Int) := by rw [lN_ti (by omega), if_pos (by omega)]
  have cx : (0 ≤ x ∧ x ≤ lN (wyT A v) - 1) ↔ (0 ≤ x.toInt ∧ x.toInt < wyT A v) := by
    rw [Int64.le_iff_toInt_le, Int64.le_iff_toInt_le, e0, fb_subL (by rw [eT, e1]; omega) (by rw [eT, e1]; omega), eT, e1]
    omega
  rw [zb_0, cx]
  refine ⟨fun g => ?_, fun g => ⟨_, rfl, hy.1 g⟩⟩
  have g4 := Decidable.not_not.mp g
  have ex := lN_of g4.1
  have hn : x.toInt.toNat < wyT A v := by omega
  have fin := hy.2 _ hn ex
  rw [ex]
  exact L_X12_way36 (A := A) (Q := fun r σ' => ∃ x, r = some (.inl x) ∧ K x σ') hW hR1 hv hn y1 ht ⟨_, rfl, fin⟩ (t + 1) 0 (Nat.zero_add _)
end zMw
