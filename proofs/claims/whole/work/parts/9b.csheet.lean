/-! sheets (class) -/
def sLn (B : zSh) (k : Nat) : Int := if B.1 k < 0 then 0 else B.1 k
def zSD (B : zSh) (σ : zSt) : Prop := ∀ k, k < 4 → zgi σ 15 k 0 = iI (if B.1 k < 0 then -9 else B.2.1 k) ∧ zgi σ 15 k 1 = iI (sLn B k) ∧ ∀ i : Nat, (i : Int) < B.1 k → zgl σ 53 k i = B.2.2 k i
theorem zSD.only {B : zSh} {σ σ' : zSt} {M : Nat → Nat → Nat → Prop} (h : zSD B σ) (ho : zOnly M σ σ') (hm : ∀ j k, ¬ M 15 j k ∧ ¬ M 53 j k) : zSD B σ' := fun k hk => by
  obtain ⟨h1, h2, h3⟩ := h k hk
  refine ⟨?_, ?_, fun i hi => ?_⟩
  · rw [ho.i 15 k 0 (hm k 0).1]; exact h1
  · rw [ho.i 15 k 1 (hm k 1).1]; exact h2
  · rw [ho.l 53 k i (hm k i).2]; exact h3 i hi
theorem sLn_r {B : zSh} (h : zWs B) {k : Nat} (hk : k < 4) : 0 ≤ sLn B k ∧ sLn B k ≤ 64 := by
  have := ws_rng h hk
  unfold sLn
  split <;> omega
theorem pl_X8' : plainName RX8 = true := pl_X8
abbrev zQsh (c _j k : Nat) : Prop := c = 15 ∨ c = 53 ∨ (c = 6 ∧ k = 15)
section zSs
variable {d kc ks : Nat} {σ : zSt} {A : zAb} {B : zSh} {Q : Option zV → zSt → Prop}
theorem zSD.f {x : Int32} (h : zSD B σ) : zSD B (zsi σ 6 0 15 x) := h.only (M := fun c _ k => c = 6 ∧ k = 15) (zOnly.si ⟨rfl, rfl⟩) (fun j k => by omega)
theorem S_X11_faulty {ph : Bool} {K : Int32 → zSt → Prop} (a : Int32) (hK : K (-10 - a) (zsi σ 6 0 15 a)) : zCi ph (d + 1) 0 0 M_X11_faulty [.inr (.inr (6, 0)), .inl (a)] σ K :=
  zC_intro pl_X11 (Nat.le_of_ble_eq_true rfl) (T_X11_faulty_0 ⟨_, rfl, hK⟩)
theorem S_X8_isEmpty {ph : Bool} {K : Int32 → zSt → Prop} (hW : zWs B) (hS : zSD B σ) {k : Nat} (hk : k < 4) (hK : K (zb (B.1 k < 0)) σ) : zCi ph (d + 1) 0 0 M_X8_isEmpty [.inr (.inr (15, k))] σ K := by
  refine zC_intro pl_X8 (Nat.le_of_ble_eq_true rfl) (T_X8_isEmpty_0 (fun x hx => ⟨_, rfl, ?_⟩))
  have hw := hW k hk
  have h1 := (hS k hk).1
  have e : x = zb (B.1 k < 0) := by
    rw [hx]
    by_cases z : B.1 k < 0
    · rw [if_pos z] at h1
      rw [if_neg (fun q => q h1)]
      simp [zb, z]
    · rw [if_neg z] at h1
      have : ¬ zgi σ 15 k 0 = -9 := fun q => by
        rw [h1, show (-9 : Int32) = iI (-9) from rfl, iI_eqI (by omega) (by omega)] at q
        omega
      rw [if_pos this]
      simp [zb, z]
  rw [e]
  exact hK
theorem S_X8_reaches {ph : Bool} {K : Int32 → zSt → Prop} (hW : zWs B) (hS : zSD B σ) {k : Nat} (hk : k < 4) (i n : Int32) (hK : K (zb (sRe (sLn B k) i.toInt n.toInt)) σ) : zCi ph (d + 1) 0 0 M_X8_reaches [.inr (.inr (15, k)), .inl (i), .inl (n)] σ K := by
  refine zC_intro pl_X8 (Nat.le_of_ble_eq_true rfl) (T_X8_reaches_0 (fun x hx => ⟨_, rfl, ?_⟩))
  have hr := sLn_r hW hk
  have h1 := (hS k hk).2.1
  have c : ((n < 0) ∨ ((zgi σ 15 k 1 < n) ∨ ((i < 0) ∨ ((zgi σ 15 k 1 - n) < i)))) ↔ ¬ sRe (sLn B k) i.toInt n.toInt := by
    rw [h1]
    simp only [Int32.lt_iff_toInt_lt, Int32.toInt_zero]
    rw [iI_toInt (by omega) (by omega)]
    by_cases z : 0 ≤ n.toInt ∧ n.toInt ≤ sLn B k
    · rw [fb_subI (by rw [iI_toInt (by omega) (by omega)]; omega) (by rw [iI_toInt (by omega) (by omega)]; omega), iI_toInt (by omega) (by omega)]
      unfold sRe
      omega
    · unfold sRe
      omega
  have e : x = zb (sRe (sLn B k) i.toInt n.toInt) := by
    rw [hx]
    by_cases z : sRe (sLn B k) i.toInt n.toInt
    · rw [if_neg (fun q => c.mp q z)]
      simp only [zb, if_pos z]
    · rw [if_pos (c.mpr z)]
      simp only [zb, if_neg z]
  rw [e]
  exact hK
theorem S_X8_write {K : zSt → Prop} (hW : zWs B) (hS : zSD B σ) {k i : Nat} (hk : k < 4) (hi : i < 64) (h0 : 0 ≤ B.1 k) (v : Int64) (hK : K (zsl σ 53 k i (sNar (B.2.1 k) v))) : zCv true (d + 1) 0 0 M_X8_write [.inr (.inr (15, k)), .inl (nI i), .inr (.inl (v))] σ K := by
  have hw := hW k hk
  have h1 := (hS k hk).1
  rw [if_neg (by omega)] at h1
  have i64 : vp_in (nI i) 64 := nI_in (by omega) (by omega)
  have cc : ∀ n : Int, 0 ≤ n → n ≤ 3 → ((zgi σ 15 k 0 = iI n) ↔ B.2.1 k = n) := fun n h2 h3 => by rw [h1]; exact iI_eqI (by omega) (by omega)
  have z0 : zgi σ 15 k 0 = 0 ↔ B.2.1 k = 0 := cc 0 (by omega) (by omega)
  have z1 : zgi σ 15 k 0 = 1 ↔ B.2.1 k = 1 := cc 1 (by omega) (by omega)
  have z2 : zgi σ 15 k 0 = 2 ↔ B.2.1 k = 2 := cc 2 (by omega) (by omega)
  refine zC_intro pl_X8 (Nat.le_of_ble_eq_true rfl) (T_X8_write_0 ?_)
  rw [nI_clamp (show i < 2 ^ 31 by omega)]
  refine ⟨fun g => ⟨i64, rfl, ?_⟩, fun g => ⟨i64, rfl, ?_⟩, fun g => ⟨i64, rfl, ?_⟩, fun g0 g1 g2 => ⟨i64, rfl, ?_⟩⟩
  · unfold sNar at hK
    rw [if_pos (z0.mp g)] at hK
    exact hK
  · have q := z1.mp g
    unfold sNar at hK
    rw [if_neg (by omega), if_pos q] at hK
    exact hK
  · have q := z2.mp g
    unfold sNar at hK
    rw [if_neg (by omega), if_neg (by omega), if_pos q] at hK
    exact hK
  · rw [z0] at g0
    rw [z1] at g1
    rw [z2] at g2
    unfold sNar at hK
    rw [if_neg g0, if_neg g1, if_neg g2] at hK
    exact hK
theorem L_J7_fillL {ph : Bool} {ca j N : Nat} {v : Int64} (hk : zkd ca = 1) (hc : 5 < ca) (hl : zLn.getD ca 0 = N) (hN : N < 2 ^ 31) {σ0 : zSt} (hQ : ∀ σ', zOnly (fun c i _ => c = ca ∧ i = j) σ0 σ' → σ'.2.2.2 = σ0.2.2.2 → (∀ k, k < N → zgl σ' ca j k = v) → Q none σ') : ∀ (n k : Nat), k + n = N → ∀ σ : zSt, zOnly (fun c i _ => c = ca ∧ i = j) σ0 σ → σ.2.2.2 = σ0.2.2.2 → (∀ i, i < k → zgl σ ca j i = v) → zE ph (d + 1) kc ks M_J7_fill_d0a16 6 [some (.inr (.inr (ca, j))), some (.inr (.inl (v))), none, some (.inl (nI k)), some (.inl (nI N))] [] σ Q := by
  intro n
  induction n with
  | zero =>
    intro k hk2 σ ho hh h
    have : k = N := by omega
    subst this
    exact T_J7_fill_d0a16_6 hk hc ⟨fun _ => hQ σ ho hh h, fun g => absurd (Int32.le_refl _) g⟩
  | succ n ih =>
    intro k hk2 σ ho hh h
    refine T_J7_fill_d0a16_6 hk hc ⟨fun g => ?_, fun _ => ⟨by rw [hl]; exact nI_in (by omega) (by omega), ?_⟩⟩
    · rw [nI_leI (by omega) (by omega)] at g
      omega
    · rw [nI_clamp (show k < 2 ^ 31 by omega), ← nI_succ]
      refine ih (k + 1) (by omega) _ (ho.tr (zOnly.sl ⟨rfl, rfl⟩)) hh (fun i hi => ?_)
      rw [zgl_sl]
      by_cases e : i = k
      · rw [if_pos ⟨rfl, rfl, e⟩]
      · rw [if_neg (fun q => e q.2.2)]
        exact h i (by omega)
theorem S_J7_fillL {ph : Bool} {K : zSt → Prop} {ca j N : Nat} {v : Int64} (hk : zkd ca = 1) (hc : 5 < ca) (hl : zLn.getD ca 0 = N) (hN : N < 2 ^ 31) (hK : ∀ σ', zOnly (fun c i _ => c = ca ∧ i = j) σ σ' → σ'.2.2.2 = σ.2.2.2 → (∀ k, k < N → zgl σ' ca j k = v) → K σ') : zCv ph (d + 1) 0 0 M_J7_fill_d0a16 [.inr (.inr (ca, j)), .inr (.inl (v))] σ K := by
  refine zC_intro pl_J7 (Nat.le_of_ble_eq_true rfl) (T_J7_fill_d0a16_0 hk hc ?_)
  rw [hl]
  exact L_J7_fillL hk hc hl hN (fun σ' h1 h2 h3 => ⟨rfl, hK σ' h1 h2 h3⟩) N 0 (Nat.zero_add _) σ zOnly.rf rfl (fun i hi => absurd hi (Nat.not_lt_zero i))
theorem shI_b (a : Int32) : (0 ≤ a ∧ a ≤ (3 : Int32)) ↔ shI a := zin_k a (l := 0) (h := 3) (by omega) (by omega)
/-- a SHEET taken as a row: a refusal, a FAULT, or 0 -/
theorem S_X11_refusalOfRow {K : Int32 → zSt → Prop} (hW : zWs B) (hS : zSD B σ) (a l : Int32) (hno : ¬ shI a → K (-1) (zsi σ 6 0 15 0)) (hout : shI a → ¬ shI l → K (-2) (zsi σ 6 0 15 0)) (hcast : ∀ k, k < 4 → a = nI k → shI l → 0 ≤ B.1 k → B.2.1 k ≠ l.toInt → K (-12) (zsi (zsi σ 6 0 15 0) 6 0 15 2)) (hnull : ∀ k, k < 4 → a = nI k → shI l → B.1 k < 0 → K (-11) (zsi (zsi σ 6 0 15 0) 6 0 15 1))
    (hok : ∀ k, k < 4 → a = nI k → shI l → 0 ≤ B.1 k → B.2.1 k = l.toInt → K 0 (zsi σ 6 0 15 0)) : zCi true (d + 2) 0 0 M_X11_refusalOfRow [.inr (.inr (6, 0)), .inl (a), .inl (l)] σ K := by
  refine zC_intro pl_X11 (Nat.le_of_ble_eq_true rfl) (T_X11_refusalOfRow_0 ⟨fun h => ⟨fun h2 => ?_, fun h2 => ⟨_, rfl, ?_⟩⟩, fun h => ⟨_, rfl, ?_⟩⟩)
  · rw [zb_0, Decidable.not_not, shI_b] at h h2
    obtain ⟨k, hk, rfl⟩ := shI_nI h
    have hw := hW k hk
    have i4 : vp_in (nI k) 4 := nI_in (by omega) (by omega)
    rw [nI_clamp (show k < 2 ^ 31 by omega)]
    refine ⟨i4, S_X8_isEmpty hW hS.f hk ⟨fun g => ⟨i4, fun g2 => S_X11_faulty _ ⟨_, rfl, ?_⟩, fun g2 => ⟨_, rfl, ?_⟩⟩, fun g => S_X11_faulty _ ⟨_, rfl, ?_⟩⟩⟩
    · rw [zb_0] at g
      refine hcast k hk rfl h2 (by omega) (fun q => g2 ?_)
      rw [(hS.f k hk).1, if_neg g, q, iI_of]
    · rw [zb_0] at g
      rw [(hS.f k hk).1, if_neg g, ← iI_of l, iI_eqI (by omega) (by have := fb_rng l; omega)] at g2
      exact hok k hk rfl h2 (by omega) g2
    · rw [zb_0, Decidable.not_not] at g
      exact hnull k hk rfl h2 g
  · rw [zb_0, Decidable.not_not, shI_b] at h
    rw [zb_0, shI_b] at h2
    exact hout h h2
  · rw [zb_0, shI_b] at h
    exact hno h
theorem O_X11_lose {K : Int32 → zSt → Prop} (hW : zWs B) (hS : zSD B σ) (a : Int32) (hno : ¬ shI a → K (-1) σ) (hyes : ∀ k, k < 4 → a = nI k → ∀ σ', zSD (sLose B k) σ' → zOnly (fun c _ _ => c = 15) σ σ' → σ'.2.2.2 = σ.2.2.2 → K (zb (0 ≤ B.1 k)) σ') : zCi true (d + 2) 0 0 M_X11_lose [.inr (.inr (6, 0)), .inl (a)] σ K := by
  refine zC_intro pl_X11 (Nat.le_of_ble_eq_true rfl) (T_X11_lose_0 ⟨fun h => ?_, fun h => ⟨_, rfl, ?_⟩⟩)
  · rw [zb_0, Decidable.not_not, shI_b] at h
    obtain ⟨k, hk, rfl⟩ := shI_nI h
    have hw := hW k hk
    have i4 : vp_in (nI k) 4 := nI_in (by omega) (by omega)
    rw [nI_clamp (show k < 2 ^ 31 by omega)]
    refine ⟨i4, S_X8_isEmpty hW hS hk ⟨fun g => ⟨i4, zC_intro pl_X8 (Nat.le_of_ble_eq_true rfl) (T_X8_end_0 ⟨rfl, _, rfl, ?_⟩)⟩, fun g => ⟨_, rfl, ?_⟩⟩⟩
    · rw [zb_0] at g
      have e : (1 : Int32) = zb (0 ≤ B.1 k) := by simp [zb, show 0 ≤ B.1 k by omega]
      rw [e]
      refine hyes k hk rfl _ (fun j hj => ?_) ((zOnly.si rfl).tr (zOnly.si rfl)) rfl
      obtain ⟨h1, h2, h3⟩ := hS j hj
      simp only [sLose, sLn] at h1 h2 h3 ⊢
      by_cases z : j = k
      · subst z
        simp only [zgi_si, zgl_si]
        refine ⟨by simp; rfl, by simp; rfl, fun i hi => ?_⟩
        simp at hi
        omega
      · simp only [zgi_si, zgl_si, z, if_false, false_and, and_false]
        exact ⟨h1, h2, h3⟩
    · rw [zb_0, Decidable.not_not] at g
      have e : (0 : Int32) = zb (0 ≤ B.1 k) := by simp [zb, show ¬ 0 ≤ B.1 k by omega]
      rw [e]
      refine hyes k hk rfl σ (fun j hj => ?_) zOnly.rf rfl
      obtain ⟨h1, h2, h3⟩ := hS j hj
      simp only [sLose, sLn] at h1 h2 h3 ⊢
      by_cases z : j = k
      · subst z
        rw [if_pos g] at h1 h2
        refine ⟨by simp; exact h1, by simp; exact h2, fun i hi => ?_⟩
        simp at hi
        omega
      · simp only [z, if_false]
        exact ⟨h1, h2, h3⟩
  · rw [zb_0, shI_b] at h
    exact hno h
theorem O_X11_sheet {K : Int32 → zSt → Prop} (hW : zWs B) (hS : zSD B σ) (a b c : Int32) (hno : ¬ shI a → K (-1) (zsi σ 6 0 15 0)) (hout : shI a → ¬ (shI b ∧ c.toInt ≤ 64) → K (-2) (zsi σ 6 0 15 0)) (hneg : shI a → shI b → c.toInt < 0 → K (-14) (zsi (zsi σ 6 0 15 0) 6 0 15 4))
    (hyes : ∀ k l n, k < 4 → l < 4 → n ≤ 64 → a = nI k → b = nI l → c = nI n → ∀ σ', zSD (sNew B k l n) σ' → zOnly zQsh σ σ' → σ'.2.2.2 = σ.2.2.2 → zgi σ' 6 0 15 = 0 → K 1 σ') : zCi true (d + 3) 0 0 M_X11_sheet [.inr (.inr (6, 0)), .inl (a), .inl (b), .inl (c)] σ K := by
  have hc : c ≤ 64 ↔ c.toInt ≤ 64 := by rw [Int32.le_iff_toInt_le]; rfl
  have hc0 : 0 ≤ c ↔ 0 ≤ c.toInt := by rw [Int32.le_iff_toInt_le]; rfl
  refine zC_intro pl_X11 (Nat.le_of_ble_eq_true rfl) (T_X11_sheet_0 ⟨fun h => ⟨fun h2 => ⟨_, rfl, ?_⟩, fun h2 => ⟨fun h3 => ⟨fun h4 => ?_, fun h4 => S_X11_faulty _ ⟨_, rfl, ?_⟩⟩, fun h3 => ⟨_, rfl, ?_⟩⟩⟩, fun h => ⟨_, rfl, ?_⟩⟩)
  · rw [zb_0, Decidable.not_not, shI_b] at h
    rw [zb_0, shI_b] at h2
    exact hout h (fun q => h2 q.1)
  · rw [zb_0, Decidable.not_not, shI_b] at h h2
    rw [hc] at h3
    rw [hc0] at h4
    obtain ⟨k, hk, rfl⟩ := shI_nI h
    obtain ⟨l, hl, rfl⟩ := shI_nI h2
    obtain ⟨n, hn, rfl⟩ : ∃ n : Nat, n ≤ 64 ∧ c = nI n := ⟨c.toInt.toNat, by omega, zI_of h4⟩
    rw [nI_clamp (show k < 2 ^ 31 by omega)]
    refine ⟨nI_in (by omega) (by omega), zC_intro pl_X8 (Nat.le_of_ble_eq_true rfl) (T_X8_begin_0 (S_J7_fillL (N := 64) rfl (by omega) rfl (by omega) (fun σ' o h z => ⟨rfl, _, rfl, ?_⟩)))⟩
    have o0 : zOnly zQsh σ (zsi (zsi (zsi σ 6 0 15 0) 15 k 0 (nI l)) 15 k 1 (nI n)) := ((zOnly.si (Or.inr (Or.inr ⟨rfl, rfl⟩))).tr (zOnly.si (Or.inl rfl))).tr (zOnly.si (Or.inl rfl))
    have v : ∀ j e, zgi σ' 15 j e = if j = k ∧ e = 1 then nI n else if j = k ∧ e = 0 then nI l else zgi σ 15 j e := fun j e => by
      rw [o.i 15 j e (by omega), zgi_si, zgi_si, zgi_si]
      simp
    refine hyes k l n hk hl hn rfl rfl rfl σ' (fun j hj => ?_) (o0.tr (o.mono (fun c j k h => Or.inr (Or.inl h.1)))) h (by rw [o.i 6 0 15 (by omega)]; simp [zgi_si])
    obtain ⟨h1, h2, h3⟩ := hS j hj
    rw [v, v]
    simp only [sNew, sLn] at h1 h2 h3 ⊢
    by_cases y : j = k
    · subst y
      refine ⟨by simp [show ¬ ((n : Int) < 0) by omega]; exact iI_nat l, by simp [show ¬ ((n : Int) < 0) by omega]; exact iI_nat n, fun i hi => ?_⟩
      simp at hi ⊢
      exact z i (by omega)
    · simp only [y, if_false, false_and]
      refine ⟨h1, h2, fun i hi => ?_⟩
      rw [o.l 53 j i (fun q => y q.2)]
      exact h3 i hi
  · rw [zb_0, Decidable.not_not, shI_b] at h h2
    rw [hc0] at h4
    exact hneg h h2 (by omega)
  · rw [zb_0, Decidable.not_not, shI_b] at h
    rw [hc] at h3
    exact hout h (fun q => h3 q.2)
  · rw [zb_0, shI_b] at h
    exact hno h
theorem sBad_re {B : zSh} {k : Nat} (i : Int32) (h : 0 ≤ B.1 k) : sRe (sLn B k) i.toInt 1 ↔ sBad B k i = 0 := by
  rw [sBad_0]
  unfold sRe sLn
  rw [if_neg (by omega)]
  omega
theorem O_X11_lay {K : Int32 → zSt → Prop} (hW : zWs B) (hS : zSD B σ) (a b : Int32) (v : Int64) (hno : ¬ shI a → K (-1) (zsi σ 6 0 15 0)) (hbad : ∀ k, k < 4 → a = nI k → sBad B k b ≠ 0 → K (iI (-10 - sBad B k b)) (zsi (zsi σ 6 0 15 0) 6 0 15 (iI (sBad B k b))))
    (hyes : ∀ k i : Nat, k < 4 → (i : Int) < B.1 k → a = nI k → b = nI i → ∀ σ', zSD (sLay B k i v) σ' → zOnly zQsh σ σ' → σ'.2.2.2 = σ.2.2.2 → zgi σ' 6 0 15 = 0 → K 1 σ') : zCi true (d + 2) 0 0 M_X11_lay [.inr (.inr (6, 0)), .inl (a), .inl (b), .inr (.inl (v))] σ K := by
  refine zC_intro pl_X11 (Nat.le_of_ble_eq_true rfl) (T_X11_lay_0 ⟨fun h => ?_, fun h => ⟨_, rfl, ?_⟩⟩)
  · rw [zb_0, Decidable.not_not, shI_b] at h
    obtain ⟨k, hk, rfl⟩ := shI_nI h
    have hw := hW k hk
    have i4 : vp_in (nI k) 4 := nI_in (by omega) (by omega)
    rw [nI_clamp (show k < 2 ^ 31 by omega)]
    refine ⟨i4, S_X8_isEmpty hW hS.f hk ⟨fun g => ⟨i4, S_X8_reaches hW hS.f hk b 1 ⟨fun g2 => ⟨i4, ?_⟩, fun g2 => S_X11_faulty _ ⟨_, rfl, ?_⟩⟩⟩, fun g => S_X11_faulty _ ⟨_, rfl, ?_⟩⟩⟩
    · rw [zb_0] at g
      rw [zb_0, Decidable.not_not, show (1 : Int32).toInt = 1 from rfl, sBad_re b (by omega), sBad_0] at g2
      obtain ⟨i, hi, rfl⟩ : ∃ i : Nat, (i : Int) < B.1 k ∧ b = nI i := ⟨b.toInt.toNat, by omega, zI_of g2.1⟩
      refine S_X8_write hW hS.f hk (by omega) (by omega) v ⟨_, rfl, ?_⟩
      refine hyes k i hk hi rfl rfl _ (fun j hj => ?_) ((zOnly.si (Or.inr (Or.inr ⟨rfl, rfl⟩))).tr (zOnly.sl (Or.inr (Or.inl rfl)))) rfl (by rw [zgi_sl, zgi_si, if_pos ⟨rfl, rfl, rfl⟩])
      obtain ⟨h1, h2, h3⟩ := hS.f (x := 0) j hj
      refine ⟨h1, h2, fun e he => ?_⟩
      have := h3 e he
      rw [zgl_sl]
      show _ = if j = k ∧ e = i then sNar (B.2.1 k) v else B.2.2 j e
      by_cases z : j = k ∧ e = i
      · rw [if_pos ⟨rfl, z.1, z.2⟩, if_pos z]
      · rw [if_neg (fun q => z q.2), if_neg z]
        exact this
    · rw [zb_0] at g
      rw [zb_0, show (1 : Int32).toInt = 1 from rfl, sBad_re b (by omega)] at g2
      have e3 : sBad B k b = 3 := by
        rcases sBad_r B k b with q | q | q
        · exact absurd q g2
        · exact absurd q (by unfold sBad; rw [if_neg g]; split <;> omega)
        · exact q
      have := hbad k hk rfl g2
      rw [e3] at this
      exact this
    · rw [zb_0, Decidable.not_not] at g
      have e1 : sBad B k b = 1 := by unfold sBad; rw [if_pos g]
      have := hbad k hk rfl (by omega)
      rw [e1] at this
      exact this
  · rw [zb_0, shI_b] at h
    exact hno h
theorem O_X11_cell {K : Int64 → zSt → Prop} (hW : zWs B) (hS : zSD B σ) (a b l : Int32) (hno : ¬ (shI a ∧ shI l) → K (-9223372036854775808) (zsi σ 6 0 15 0))
    (hcast : ∀ k, k < 4 → a = nI k → shI l → 0 ≤ B.1 k → B.2.1 k ≠ l.toInt → K (-9223372036854775808) (zsi (zsi σ 6 0 15 0) 6 0 15 2)) (hbad : ∀ k, k < 4 → a = nI k → shI l → (0 ≤ B.1 k → B.2.1 k = l.toInt) → sBad B k b ≠ 0 → K (-9223372036854775808) (zsi (zsi σ 6 0 15 0) 6 0 15 (iI (sBad B k b))))
    (hyes : ∀ k i : Nat, k < 4 → (i : Int) < B.1 k → a = nI k → b = nI i → shI l → B.2.1 k = l.toInt → K (B.2.2 k i) (zsi σ 6 0 15 0)) : zCl true (d + 3) 0 0 M_X11_cell [.inr (.inr (6, 0)), .inl (a), .inl (b), .inl (l)] σ K := by
  refine zC_intro pl_X11 (Nat.le_of_ble_eq_true rfl) (T_X11_cell_0 (S_X11_refusalOfRow hW hS a l (fun h => ⟨fun q => absurd q (by decide), fun _ => ⟨_, rfl, hno (fun q => h q.1)⟩⟩) (fun h h2 => ⟨fun q => absurd q (by decide), fun _ => ⟨_, rfl, hno (fun q => h2 q.2)⟩⟩) (fun k hk e h2 h0 h3 => ⟨fun q => absurd q (by decide), fun _ => ⟨_, rfl, hcast k hk e h2 h0 h3⟩⟩) (fun k hk e h2 h0 => ⟨fun q => absurd q (by decide), fun _ => ⟨_, rfl, ?_⟩⟩) (fun k hk e h2 h0 h3 => ⟨fun _ => ?_, fun q => absurd rfl q⟩)))
  · have e1 : sBad B k b = 1 := by unfold sBad; rw [if_pos h0]
    have := hbad k hk e h2 (fun q => by omega) (by omega)
    rw [e1] at this
    exact this
  · subst e
    have hw := hW k hk
    have i4 : vp_in (nI k) 4 := nI_in (by omega) (by omega)
    rw [nI_clamp (show k < 2 ^ 31 by omega)]
    refine ⟨i4, S_X8_reaches hW hS.f hk b 1 ⟨fun g2 => ⟨i4, ?_⟩, fun g2 => ⟨_, rfl, ?_⟩⟩⟩
    · rw [zb_0, Decidable.not_not, show (1 : Int32).toInt = 1 from rfl, sBad_re b (by omega), sBad_0] at g2
      obtain ⟨i, hi, rfl⟩ : ∃ i : Nat, (i : Int) < B.1 k ∧ b = nI i := ⟨b.toInt.toNat, by omega, zI_of g2.1⟩
      refine ⟨nI_in (by omega) (by omega), _, rfl, ?_⟩
      rw [nI_clamp (show i < 2 ^ 31 by omega), (hS.f k hk).2.2 i hi]
      exact hyes k i hk hi rfl rfl h2 h3
    · rw [zb_0, show (1 : Int32).toInt = 1 from rfl, sBad_re b (by omega)] at g2
      have e3 : sBad B k b = 3 := by
        rcases sBad_r B k b with q | q | q
        · exact absurd q g2
        · exact absurd q (by unfold sBad; rw [if_neg (by omega)]; split <;> omega)
        · exact q
      have := hbad k hk rfl h2 (fun _ => h3) g2
      rw [e3] at this
      exact this
theorem O_X11_copy {K : Int32 → zSt → Prop} (hW : zWs B) (hS : zSD B σ) (a b e f g : Int32) (hno : ¬ (shI a ∧ shI e) → K (-1) (zsi σ 6 0 15 0)) (hnull : ∀ k o, k < 4 → o < 4 → a = nI k → e = nI o → B.1 k < 0 ∨ B.1 o < 0 → K (-11) (zsi (zsi σ 6 0 15 0) 6 0 15 1)) (hcast : ∀ k o, k < 4 → o < 4 → a = nI k → e = nI o → 0 ≤ B.1 k → 0 ≤ B.1 o → B.2.1 k ≠ B.2.1 o → K (-12) (zsi (zsi σ 6 0 15 0) 6 0 15 2))
    (hidx : ∀ k o, k < 4 → o < 4 → a = nI k → e = nI o → 0 ≤ B.1 k → 0 ≤ B.1 o → B.2.1 k = B.2.1 o → ¬ (sRe (B.1 k) b.toInt g.toInt ∧ sRe (B.1 o) f.toInt g.toInt) → K (-13) (zsi (zsi σ 6 0 15 0) 6 0 15 3))
    (hyes : ∀ k o i j n : Nat, k < 4 → o < 4 → a = nI k → e = nI o → b = nI i → f = nI j → g = nI n → 0 ≤ B.1 k → 0 ≤ B.1 o → B.2.1 k = B.2.1 o → (i + n : Int) ≤ B.1 k → (j + n : Int) ≤ B.1 o → ∀ σ', zSD (sCopy B k i o j n) σ' → zOnly zQsh σ σ' → σ'.2.2.2 = σ.2.2.2 → zgi σ' 6 0 15 = 0 → K (nI n) σ') : zCi true (d + 2) 0 0 M_X11_copy [.inr (.inr (6, 0)), .inl (a), .inl (b), .inl (e), .inl (f), .inl (g)] σ K := by
  refine zC_intro pl_X11 (Nat.le_of_ble_eq_true rfl) (T_X11_copy_0 ⟨fun h => ⟨_, rfl, hno ?_⟩, fun h => ?_⟩)
  · rw [zb_0, zb_0, shI_b, shI_b] at h
    exact fun q => h.elim (fun z => z q.1) (fun z => z q.2)
  · rw [zb_0, zb_0, shI_b, shI_b] at h
    have ha : shI a := Decidable.not_not.mp (fun q => h (Or.inl q))
    have he : shI e := Decidable.not_not.mp (fun q => h (Or.inr q))
    obtain ⟨k, hk, rfl⟩ := shI_nI ha
    obtain ⟨o, ho, rfl⟩ := shI_nI he
    have hw := hW k hk
    have hwo := hW o ho
    have i4 : vp_in (nI k) 4 := nI_in (by omega) (by omega)
    have i4o : vp_in (nI o) 4 := nI_in (by omega) (by omega)
    have hS0 : zSD B (zsi σ 6 0 15 0) := hS.f
    rw [nI_clamp (show k < 2 ^ 31 by omega), nI_clamp (show o < 2 ^ 31 by omega)]
    refine ⟨i4, i4o, S_X8_isEmpty hW hS0 hk ⟨fun g1 => T_X11_copy_57 (S_X11_faulty _ ⟨_, rfl, ?_⟩), fun g1 => S_X8_isEmpty hW hS0 ho ⟨fun g2 => ⟨fun g3 => ?_, fun g3 => S_X11_faulty _ ⟨_, rfl, ?_⟩⟩, fun g2 => T_X11_copy_57 (S_X11_faulty _ ⟨_, rfl, ?_⟩)⟩⟩⟩
    · rw [zb_0, Decidable.not_not] at g1
      exact hnull k o hk ho rfl rfl (Or.inl g1)
    · rw [zb_0] at g1 g2
      rw [(hS0 k hk).1, (hS0 o ho).1, if_neg g1, if_neg g2, iI_eqI (by omega) (by omega)] at g3
      have ek : sLn B k = B.1 k := by unfold sLn; rw [if_neg g1]
      have eo : sLn B o = B.1 o := by unfold sLn; rw [if_neg g2]
      refine S_X8_reaches hW hS0 hk b g ⟨fun g4 => T_X11_copy_105 (S_X11_faulty _ ⟨_, rfl, ?_⟩), fun g4 => S_X8_reaches hW hS0 ho f g ⟨fun g5 => ?_, fun g5 => T_X11_copy_105 (S_X11_faulty _ ⟨_, rfl, ?_⟩)⟩⟩
      · rw [zb_0, ek] at g4
        exact hidx k o hk ho rfl rfl (by omega) (by omega) g3 (fun q => g4 q.1)
      · rw [zb_0, Decidable.not_not, ek] at g4
        rw [zb_0, Decidable.not_not, eo] at g5
        unfold sRe at g4 g5
        obtain ⟨i, hi, rfl⟩ : ∃ i : Nat, i ≤ 64 ∧ b = nI i := ⟨b.toInt.toNat, by omega, zI_of g4.1⟩
        obtain ⟨j, hj, rfl⟩ : ∃ j : Nat, j ≤ 64 ∧ f = nI j := ⟨f.toInt.toNat, by omega, zI_of g5.1⟩
        obtain ⟨n, hn, rfl⟩ : ∃ n : Nat, n ≤ 64 ∧ g = nI n := ⟨g.toInt.toNat, by omega, zI_of g4.2.1⟩
        rw [nI_toInt (show i < 2 ^ 31 by omega), nI_toInt (show n < 2 ^ 31 by omega)] at g4
        rw [nI_toInt (show j < 2 ^ 31 by omega), nI_toInt (show n < 2 ^ 31 by omega)] at g5
        have nn : ∀ x : Nat, x ≤ 64 → ¬ nI x < 0 := fun x hx q => by
          rw [Int32.lt_iff_toInt_lt, nI_toInt (by omega), Int32.toInt_zero] at q
          omega
        rw [nI_clamp (show i < 2 ^ 31 by omega), nI_clamp (show j < 2 ^ 31 by omega), nI_clamp (show n < 2 ^ 31 by omega)]
        refine ⟨⟨nn i hi, nn j hj, nn n hn, by omega, by omega⟩, _, rfl, ?_⟩
        have v : ∀ y e', zgl (zcpy (zsi σ 6 0 15 0) 53 k 53 o i j n) 53 y e' = if y = o ∧ j ≤ e' ∧ e' < j + n then zgl σ 53 k (i + (e' - j)) else zgl σ 53 y e' := fun y e' => by
          rw [zgl_cpy]
          simp only [true_and]
          rfl
        refine hyes k o i j n hk ho rfl rfl rfl rfl rfl (by omega) (by omega) g3 (by omega) (by omega) _ (fun s hs => ?_) ?_ rfl ?_
        · obtain ⟨h1, h2, h3⟩ := hS s hs
          refine ⟨h1, h2, fun x hx => ?_⟩
          have hx' : (x : Int) < B.1 s := hx
          rw [v]
          show _ = if s = o ∧ j ≤ x ∧ x < j + n then B.2.2 k (i + (x - j)) else B.2.2 s x
          by_cases z : s = o ∧ j ≤ x ∧ x < j + n
          · rw [if_pos z, if_pos z]
            exact (hS k hk).2.2 _ (by omega)
          · rw [if_neg z, if_neg z]
            exact h3 x hx'
        · refine (zOnly.si (m := zQsh) (c := 6) (j := 0) (k := 15) (x := 0) (Or.inr (Or.inr ⟨rfl, rfl⟩))).tr (fun c y x hn => ⟨rfl, ?_, rfl⟩)
          rw [zgl_cpy, if_neg (fun q => hn (Or.inr (Or.inl q.1)))]
        · show zgi (zsi σ 6 0 15 0) 6 0 15 = 0
          rw [zgi_si, if_pos ⟨rfl, rfl, rfl⟩]
      · rw [zb_0, eo] at g5
        exact hidx k o hk ho rfl rfl (by omega) (by omega) g3 (fun q => g5 q.2)
    · rw [zb_0] at g1 g2
      rw [(hS0 k hk).1, (hS0 o ho).1, if_neg g1, if_neg g2, iI_eqI (by omega) (by omega)] at g3
      exact hcast k o hk ho rfl rfl (by omega) (by omega) g3
    · rw [zb_0, Decidable.not_not] at g2
      exact hnull k o hk ho rfl rfl (Or.inr g2)
end zSs
