/-! cells of sheets, as the reference lays, reads and copies them -/
abbrev sRe (z i n : Int) : Prop := 0 ≤ i ∧ 0 ≤ n ∧ i + n ≤ z
theorem zbey (i n s : Int32) : (i < 0 ∨ n.toInt64 < 0 ∨ s.toInt64 < i.toInt64 + n.toInt64) ↔ ¬ sRe s.toInt i.toInt n.toInt := by
  have r1 := fb_rng i
  have r2 := fb_rng n
  have e0 : (0 : Int64).toInt = 0 := rfl
  rw [Int32.lt_iff_toInt_lt, Int32.toInt_zero, Int64.lt_iff_toInt_lt, Int64.lt_iff_toInt_lt, e0, i64_toInt, i64_toInt, fb_addL (by rw [i64_toInt, i64_toInt]; omega) (by rw [i64_toInt, i64_toInt]; omega), i64_toInt, i64_toInt]
  unfold sRe
  omega
def sCopy (B : zSh) (k i o j n : Nat) : zSh := (B.1, B.2.1, fun s e => if s = o ∧ j ≤ e ∧ e < j + n then B.2.2 k (i + (e - j)) else B.2.2 s e)
theorem ws_copy {B : zSh} {k i o j n : Nat} (h : zWs B) : zWs (sCopy B k i o j n) := h
theorem sBad_0 {B : zSh} {k : Nat} {i : Int32} : sBad B k i = 0 ↔ 0 ≤ i.toInt ∧ i.toInt < B.1 k := by
  unfold sBad
  by_cases h : B.1 k < 0
  · rw [if_pos h]; omega
  · rw [if_neg h]
    by_cases h2 : 0 ≤ i.toInt ∧ i.toInt < B.1 k
    · rw [if_pos h2]; simp [h2]
    · rw [if_neg h2]; omega
theorem sBad_r (B : zSh) (k : Nat) (i : Int32) : sBad B k i = 0 ∨ sBad B k i = 1 ∨ sBad B k i = 3 := by
  unfold sBad
  split
  · omega
  · split <;> omega
section zMg
variable {d kc ks : Nat} {σ : zSt} {B : zSh} {Q : Option zV → zSt → Prop}
theorem zRs.f {x : Int32} (hR : zRs B σ) : zRs B (zsi σ 54 0 0 x) := fun k hk => by
  rw [zgi_si, if_neg (by omega), zgi_si, if_neg (by omega)]
  exact hR k hk
theorem O_X12_lay {K : Int32 → zSt → Prop} (hW : zWs B) (hR : zRs B σ) (a b : Int32) (v : Int64) (hno : ¬ shI a → K (-1) (zsi σ 54 0 0 0)) (hbad : ∀ k, k < 4 → a = nI k → sBad B k b ≠ 0 → K (iI (-10 - sBad B k b)) (zsi σ 54 0 0 (iI (sBad B k b))))
    (hyes : ∀ k i : Nat, k < 4 → (i : Int) < B.1 k → a = nI k → b = nI i → ∀ σ', zRs (sLay B k i v) σ' → zOnly (fun c _ e => c = 100 ∨ (c = 54 ∧ e = 0)) σ σ' → zgi σ' 54 0 0 = 0 → K 1 σ') : zCi true (d + 3) 0 0 M_X12_lay [.inr (.inr (54, 0)), .inl (a), .inl (b), .inr (.inl (v))] σ K := by
  refine zC_intro pl_X12 (Nat.le_of_ble_eq_true rfl) (T_X12_lay_0 (S_X12_noSheet a ⟨fun h => ?_, fun h => S_X12_refused _ ⟨_, rfl, hno ?_⟩⟩))
  · rw [zb_0, Decidable.not_not] at h
    obtain ⟨k, hk, rfl⟩ := shI_nI h
    have hr := ws_rng hW hk
    have sr := sBad_r B k b
    have c0 : (iI (sBad B k b) ≤ 0) ↔ sBad B k b = 0 := by
      have := iI_le (a := sBad B k b) (b := 0) (by omega) (by omega)
      rw [show (0 : Int32) = iI 0 from rfl, this]
      omega
    refine S_X12_noCell hW hR hk b ⟨fun g => ?_, fun g => S_X12_noCell hW hR hk b (S_X12_failed _ ⟨_, rfl, ?_⟩)⟩
    · rw [c0] at g
      have hb := sBad_0.mp g
      have hw := hW k hk
      obtain ⟨i, hi, rfl⟩ : ∃ i : Nat, (i : Int) < B.1 k ∧ b = nI i := ⟨b.toInt.toNat, by omega, zI_of hb.1⟩
      refine ⟨nI_in (by omega) (by omega), fun x hx => ?_⟩
      rw [nI_clamp (show k < 2 ^ 31 by omega), ((hR k hk).2 (by omega)).1] at hx
      rw [e64, nI_clamp (show 64 * k + i < 2 ^ 31 by omega)]
      have ex : x = sNar (B.2.1 k) v := by
        rw [hx]
        have cc : ∀ n : Int, 0 ≤ n → n ≤ 3 → ((iI (B.2.1 k) = iI n) ↔ B.2.1 k = n) := fun n h1 h2 => iI_eqI (by omega) (by omega)
        have z0 : iI (B.2.1 k) = 0 ↔ B.2.1 k = 0 := cc 0 (by omega) (by omega)
        have z1 : iI (B.2.1 k) = 1 ↔ B.2.1 k = 1 := cc 1 (by omega) (by omega)
        have z2 : iI (B.2.1 k) = 2 ↔ B.2.1 k = 2 := cc 2 (by omega) (by omega)
        unfold sNar
        by_cases q0 : B.2.1 k = 0
        · rw [if_neg (fun q => q (z0.mpr q0)), if_pos q0]
        · rw [if_pos (fun q => q0 (z0.mp q)), if_neg q0]
          by_cases q1 : B.2.1 k = 1
          · rw [if_neg (fun q => q (z1.mpr q1)), if_pos q1]
          · rw [if_pos (fun q => q1 (z1.mp q)), if_neg q1]
            by_cases q2 : B.2.1 k = 2
            · rw [if_neg (fun q => q (z2.mpr q2)), if_pos q2]
            · rw [if_pos (fun q => q2 (z2.mp q)), if_neg q2]
      rw [ex]
      refine ⟨nI_in (by omega) (by omega), S_X12_refused _ ⟨_, rfl, hyes k i hk hi rfl rfl _ (fun j hj => ?_) ((zOnly.sl (Or.inl rfl)).tr (zOnly.si (Or.inr ⟨rfl, rfl⟩))) (by rw [zgi_si, if_pos ⟨rfl, rfl, rfl⟩])⟩⟩
      obtain ⟨g1, g2⟩ := hR j hj
      refine ⟨by rw [zgi_si, if_neg (by omega)]; exact g1, fun hp => ⟨by rw [zgi_si, if_neg (by omega)]; exact (g2 hp).1, fun e he => ?_⟩⟩
      rw [zgl_si, zgl_sl]
      have hrj := ws_rng hW hj
      have he' : (e : Int) < B.1 j := he
      have g3 := (g2 hp).2 e he'
      unfold sLay
      by_cases z : j = k
      · subst z
        by_cases z2 : e = i
        · subst z2
          simp
        · simp [z2, show ¬ (64 * j + e = 64 * j + i) by omega]
          exact g3
      · have : ¬ (64 * j + e = 64 * k + i) := by omega
        simp [z, this]
        exact g3
    · exact hbad k hk rfl (fun q => g (c0.mpr q)) |> fun w => by
        have e1 : (-10 : Int32) - iI (sBad B k b) = iI (-10 - sBad B k b) := by rw [show (-10 : Int32) = iI (-10) from rfl, iI_sub]
        rw [e1]
        exact w
  · rw [zb_0, Decidable.not_not] at h
    exact h
theorem O_X12_cell {K : Int64 → zSt → Prop} (hW : zWs B) (hR : zRs B σ) (a b l : Int32) (hno : ¬ (shI a ∧ shI l) → K (-9223372036854775808) (zsi σ 54 0 0 0))
    (hcast : ∀ k, k < 4 → a = nI k → shI l → 0 ≤ B.1 k → B.2.1 k ≠ l.toInt → K (-9223372036854775808) (zsi (zsi σ 54 0 0 0) 54 0 0 2)) (hbad : ∀ k, k < 4 → a = nI k → shI l → (0 ≤ B.1 k → B.2.1 k = l.toInt) → sBad B k b ≠ 0 → K (-9223372036854775808) (zsi (zsi σ 54 0 0 0) 54 0 0 (iI (sBad B k b))))
    (hyes : ∀ k i : Nat, k < 4 → (i : Int) < B.1 k → a = nI k → b = nI i → shI l → B.2.1 k = l.toInt → K (B.2.2 k i) (zsi σ 54 0 0 0)) : zCl true (d + 3) 0 0 M_X12_cell [.inr (.inr (54, 0)), .inl (a), .inl (b), .inl (l)] σ K := by
  have hR0 : zRs B (zsi σ 54 0 0 0) := hR.f
  have hl : (0 ≤ l.toInt64 ∧ l.toInt64 ≤ 3) ↔ shI l := zin_c l (l := 0) (h := 3) (by omega) (by omega)
  refine zC_intro pl_X12 (Nat.le_of_ble_eq_true rfl) (T_X12_cell_0 (S_X12_noSheet a ⟨fun h => T_X12_cell_24 ⟨_, rfl, hno ?_⟩, fun h => ⟨fun h2 => ?_, fun h2 => T_X12_cell_24 ⟨_, rfl, hno ?_⟩⟩⟩))
  · rw [zb_0, Decidable.not_not] at h
    exact fun q => h q.1
  · rw [zb_0, Decidable.not_not] at h
    rw [zb_0, Decidable.not_not, hl] at h2
    obtain ⟨k, hk, rfl⟩ := shI_nI h
    have hr := ws_rng hW hk
    have i4 : vp_in (nI k) 4 := nI_in (by omega) (by omega)
    have sr := sBad_r B k b
    have cn : (iI (B.1 k) < 0) ↔ B.1 k < 0 := iI_lt (b := 0) (by omega) (by omega)
    have go : (0 ≤ B.1 k → B.2.1 k = l.toInt) → zE true (d + 3) 0 0 M_X12_cell 53 [some (.inr (.inr (54, 0))), some (.inl (nI k)), some (.inl b), none] [] (zsi σ 54 0 0 0) (fun r σ' => ∃ x, r = some (.inr (.inl x)) ∧ K x σ') := by
      intro hla
      have c0 : (iI (sBad B k b) ≤ 0) ↔ sBad B k b = 0 := by
        have := iI_le (a := sBad B k b) (b := 0) (by omega) (by omega)
        rw [show (0 : Int32) = iI 0 from rfl, this]
        omega
      refine T_X12_cell_53 (S_X12_noCell hW hR0 hk b ⟨fun g => ?_, fun g => S_X12_noCell hW hR0 hk b (S_X12_failedLong _ ⟨_, rfl, ?_⟩)⟩)
      · rw [c0] at g
        have hb := sBad_0.mp g
        obtain ⟨i, hi, rfl⟩ : ∃ i : Nat, (i : Int) < B.1 k ∧ b = nI i := ⟨b.toInt.toNat, by omega, zI_of hb.1⟩
        rw [e64, nI_clamp (show 64 * k + i < 2 ^ 31 by omega), ((hR0 k hk).2 (by omega)).2 i hi]
        exact ⟨nI_in (by omega) (by omega), _, rfl, hyes k i hk hi rfl rfl h2 (hla (by omega))⟩
      · rw [c0] at g
        exact hbad k hk rfl h2 hla g
    rw [nI_clamp (show k < 2 ^ 31 by omega), (hR0 k hk).1]
    refine ⟨i4, fun _ => i4, fun g => go (fun h0 => ?_), fun g => S_X12_failedLong _ ⟨_, rfl, ?_⟩⟩
    · rcases g with g | g
      · rw [cn] at g; omega
      · have hw := hW k hk
        rw [((hR0 k hk).2 h0).1, ← iI_of l, iI_eqI (by omega) (by have := fb_rng l; omega)] at g
        exact g
    · have g1 : ¬ B.1 k < 0 := fun q => g (Or.inl (cn.mpr q))
      have hw := hW k hk
      refine hcast k hk rfl h2 (by omega) (fun q => g (Or.inr ?_))
      rw [((hR0 k hk).2 (by omega)).1, q, iI_of]
  · rw [zb_0, hl] at h2
    exact fun q => h2 q.2
theorem L_X12_copy107 {k i n : Nat} {o j : Int32} (hk : k < 4) (hi : i + n ≤ 64) {σ0 : zSt} (hnext : ∀ σ', zOnly (fun c _ _ => c = 101) σ0 σ' → (∀ x, x < n → zgl σ' 101 0 x = zgl σ0 100 0 (64 * k + i + x)) → zE true (d + 3) kc ks M_X12_copy 144 [some (.inr (.inr (54, 0))), none, none, some (.inl (o)), some (.inl (j)), some (.inl (nI n)), some (.inl (0))] [] (σ') Q) : ∀ (r x : Nat), x + r = n → ∀ σ : zSt, zOnly (fun c _ _ => c = 101) σ0 σ → (∀ y, y < x → zgl σ 101 0 y = zgl σ0 100 0 (64 * k + i + y)) → zE true (d + 3) kc ks M_X12_copy 107 [some (.inr (.inr (54, 0))), some (.inl (nI k)), some (.inl (nI i)), some (.inl (o)), some (.inl (j)), some (.inl (nI n)), some (.inl (nI x))] [] σ Q := by
  intro r
  induction r with
  | zero =>
    intro x hx σ ho hz
    have : x = n := by omega
    subst this
    exact T_X12_copy_107 ⟨fun _ => hnext σ ho hz, fun h => absurd (Int32.le_refl _) h⟩
  | succ r ih =>
    intro x hx σ ho hz
    refine T_X12_copy_107 ⟨fun g => ?_, fun _ => ?_⟩
    · rw [nI_leI (by omega) (by omega)] at g
      omega
    · rw [e64, nI_add, nI_clamp (show 64 * k + i + x < 2 ^ 31 by omega), nI_clamp (show x < 2 ^ 31 by omega), ← nI_succ]
      refine ⟨nI_in (by omega) (by omega), nI_in (by omega) (by omega), ih (x + 1) (by omega) _ (ho.tr (zOnly.sl rfl)) (fun y hy => ?_)⟩
      rw [zgl_sl]
      by_cases z : y = x
      · rw [if_pos ⟨rfl, rfl, z⟩, ho.l 100 0 _ (by omega), z]
      · rw [if_neg (fun w => z w.2.2)]
        exact hz y (by omega)
theorem L_X12_copy144 {o j n : Nat} (ho4 : o < 4) (hj : j + n ≤ 64) {σ0 : zSt} (hQ : ∀ σ', zOnly (fun c _ e => c = 100 ∨ (c = 54 ∧ e = 0)) σ0 σ' → (∀ e, zgl σ' 100 0 e = if 64 * o + j ≤ e ∧ e < 64 * o + j + n then zgl σ0 101 0 (e - (64 * o + j)) else zgl σ0 100 0 e) → zgi σ' 54 0 0 = 0 → Q (some (.inl (nI n))) σ') : ∀ (r x : Nat), x + r = n → ∀ σ : zSt, zOnly (fun c _ e => c = 100 ∨ (c = 54 ∧ e = 0)) σ0 σ → (∀ e, zgl σ 100 0 e = if 64 * o + j ≤ e ∧ e < 64 * o + j + x then zgl σ0 101 0 (e - (64 * o + j)) else zgl σ0 100 0 e) → zE true (d + 3) kc ks M_X12_copy 144 [some (.inr (.inr (54, 0))), none, none, some (.inl (nI o)), some (.inl (nI j)), some (.inl (nI n)), some (.inl (nI x))] [] σ Q := by
  intro r
  induction r with
  | zero =>
    intro x hx σ ho hz
    have : x = n := by omega
    subst this
    refine T_X12_copy_144 ⟨fun _ => S_X12_refused _ (hQ _ (ho.tr (zOnly.si (Or.inr ⟨rfl, rfl⟩))) (fun e => by rw [zgl_si]; exact hz e) (by rw [zgi_si, if_pos ⟨rfl, rfl, rfl⟩])), fun h => absurd (Int32.le_refl _) h⟩
  | succ r ih =>
    intro x hx σ ho hz
    refine T_X12_copy_144 ⟨fun g => ?_, fun _ => ?_⟩
    · rw [nI_leI (by omega) (by omega)] at g
      omega
    · rw [e64, nI_add, nI_clamp (show 64 * o + j + x < 2 ^ 31 by omega), nI_clamp (show x < 2 ^ 31 by omega), ← nI_succ]
      refine ⟨nI_in (by omega) (by omega), nI_in (by omega) (by omega), ih (x + 1) (by omega) _ (ho.tr (zOnly.sl (Or.inl rfl))) (fun e => ?_)⟩
      rw [zgl_sl]
      by_cases z : e = 64 * o + j + x
      · rw [if_pos ⟨rfl, rfl, z⟩, if_pos (by omega), ho.l 101 0 _ (by omega), z, show 64 * o + j + x - (64 * o + j) = x by omega]
      · rw [if_neg (fun w => z w.2.2), hz e]
        by_cases z2 : 64 * o + j ≤ e ∧ e < 64 * o + j + x
        · rw [if_pos z2, if_pos (by omega)]
        · rw [if_neg z2, if_neg (by omega)]
theorem O_X12_copy {K : Int32 → zSt → Prop} (hW : zWs B) (hR : zRs B σ) (a b e f g : Int32) (hno : ¬ (shI a ∧ shI e) → K (-1) (zsi σ 54 0 0 0)) (hnull : ∀ k o, k < 4 → o < 4 → a = nI k → e = nI o → B.1 k < 0 ∨ B.1 o < 0 → K (-11) (zsi σ 54 0 0 1)) (hcast : ∀ k o, k < 4 → o < 4 → a = nI k → e = nI o → 0 ≤ B.1 k → 0 ≤ B.1 o → B.2.1 k ≠ B.2.1 o → K (-12) (zsi σ 54 0 0 2))
    (hidx : ∀ k o, k < 4 → o < 4 → a = nI k → e = nI o → 0 ≤ B.1 k → 0 ≤ B.1 o → B.2.1 k = B.2.1 o → ¬ (sRe (B.1 k) b.toInt g.toInt ∧ sRe (B.1 o) f.toInt g.toInt) → K (-13) (zsi σ 54 0 0 3))
    (hyes : ∀ k o i j n : Nat, k < 4 → o < 4 → a = nI k → e = nI o → b = nI i → f = nI j → g = nI n → 0 ≤ B.1 k → 0 ≤ B.1 o → B.2.1 k = B.2.1 o → (i + n : Int) ≤ B.1 k → (j + n : Int) ≤ B.1 o → ∀ σ', zRs (sCopy B k i o j n) σ' → zOnly (fun c _ e => c = 100 ∨ c = 101 ∨ (c = 54 ∧ e = 0)) σ σ' → zgi σ' 54 0 0 = 0 → K (nI n) σ') : zCi true (d + 3) 0 0 M_X12_copy [.inr (.inr (54, 0)), .inl (a), .inl (b), .inl (e), .inl (f), .inl (g)] σ K := by
  refine zC_intro pl_X12 (Nat.le_of_ble_eq_true rfl) (T_X12_copy_0 (S_X12_noSheet a ⟨fun h => T_X12_copy_14 (S_X12_refused _ ⟨_, rfl, hno ?_⟩), fun h => S_X12_noSheet e ⟨fun h2 => ?_, fun h2 => T_X12_copy_14 (S_X12_refused _ ⟨_, rfl, hno ?_⟩)⟩⟩))
  · rw [zb_0, Decidable.not_not] at h
    exact fun q => h q.1
  · rw [zb_0, Decidable.not_not] at h h2
    obtain ⟨k, hk, rfl⟩ := shI_nI h
    obtain ⟨o, ho, rfl⟩ := shI_nI h2
    have hr := ws_rng hW hk
    have hro := ws_rng hW ho
    have hw := hW k hk
    have hwo := hW o ho
    have i4 : vp_in (nI k) 4 := nI_in (by omega) (by omega)
    have i4o : vp_in (nI o) 4 := nI_in (by omega) (by omega)
    have cn : (iI (B.1 k) < 0) ↔ B.1 k < 0 := iI_lt (b := 0) (by omega) (by omega)
    have co : (0 ≤ iI (B.1 o)) ↔ 0 ≤ B.1 o := iI_le (a := 0) (by omega) (by omega)
    have tk : (iI (B.1 k)).toInt = B.1 k := iI_toInt (by omega) (by omega)
    have to : (iI (B.1 o)).toInt = B.1 o := iI_toInt (by omega) (by omega)
    have b1 : zb (b < 0 ∨ g.toInt64 < 0 ∨ (iI (B.1 k)).toInt64 < b.toInt64 + g.toInt64) = 0 ↔ sRe (B.1 k) b.toInt g.toInt := by rw [zb_0, zbey, Decidable.not_not, tk]
    have b2 : zb (f < 0 ∨ g.toInt64 < 0 ∨ (iI (B.1 o)).toInt64 < f.toInt64 + g.toInt64) = 0 ↔ sRe (B.1 o) f.toInt g.toInt := by rw [zb_0, zbey, Decidable.not_not, to]
    rw [nI_clamp (show k < 2 ^ 31 by omega), nI_clamp (show o < 2 ^ 31 by omega), (hR k hk).1, (hR o ho).1]
    refine ⟨i4, fun g1 => T_X12_copy_38 (S_X12_failed _ ⟨_, rfl, hnull k o hk ho rfl rfl (Or.inl (cn.mp g1))⟩), fun g1 => ⟨i4o, fun g2 => ⟨i4, i4o, fun g3 => ⟨i4, fun _ => i4o, fun g4 => T_X12_copy_98 (S_X12_failed _ ⟨_, rfl, ?_⟩), fun g4 => ?_⟩, fun g3 => S_X12_failed _ ⟨_, rfl, ?_⟩⟩, fun g2 => T_X12_copy_38 (S_X12_failed _ ⟨_, rfl, hnull k o hk ho rfl rfl (Or.inr (by rw [co] at g2; omega))⟩)⟩⟩
    · rw [cn] at g1
      rw [co] at g2
      rw [((hR k hk).2 (by omega)).1, ((hR o ho).2 g2).1, iI_eqI (by omega) (by omega)] at g3
      refine hidx k o hk ho rfl rfl (by omega) g2 g3 (fun q => ?_)
      rw [b1, b2] at g4
      rcases g4 with g4 | g4
      · exact g4 q.1
      · exact g4 q.2
    · rw [cn] at g1
      rw [co] at g2
      rw [((hR k hk).2 (by omega)).1, ((hR o ho).2 g2).1, iI_eqI (by omega) (by omega)] at g3
      rw [b1, b2] at g4
      have q1 : sRe (B.1 k) b.toInt g.toInt := Decidable.not_not.mp (fun q => g4 (Or.inl q))
      have q2 : sRe (B.1 o) f.toInt g.toInt := Decidable.not_not.mp (fun q => g4 (Or.inr q))
      unfold sRe at q1 q2
      obtain ⟨i, hi, rfl⟩ : ∃ i : Nat, i ≤ 64 ∧ b = nI i := ⟨b.toInt.toNat, by omega, zI_of q1.1⟩
      obtain ⟨j, hj, rfl⟩ : ∃ j : Nat, j ≤ 64 ∧ f = nI j := ⟨f.toInt.toNat, by omega, zI_of q2.1⟩
      obtain ⟨n, hn, rfl⟩ : ∃ n : Nat, n ≤ 64 ∧ g = nI n := ⟨g.toInt.toNat, by omega, zI_of q1.2.1⟩
      rw [nI_toInt (show i < 2 ^ 31 by omega), nI_toInt (show n < 2 ^ 31 by omega)] at q1
      rw [nI_toInt (show j < 2 ^ 31 by omega), nI_toInt (show n < 2 ^ 31 by omega)] at q2
      refine L_X12_copy107 hk (by omega) (σ0 := σ) (fun σ1 o1 z1 => L_X12_copy144 ho (by omega) (σ0 := σ1) (fun σ2 o2 z2 f2 => ⟨_, rfl, hyes k o i j n hk ho rfl rfl rfl rfl rfl (by omega) g2 g3 q1.2.2 q2.2.2 σ2 (fun s hs => ?_) ((o1.mono (fun c j k h => Or.inr (Or.inl h))).tr (o2.mono (fun c j k h => h.elim Or.inl (fun q => Or.inr (Or.inr q))))) f2⟩) n 0 (by omega) σ1 zOnly.rf (fun e => by rw [if_neg (by omega)])) n 0 (by omega) σ zOnly.rf (fun y hy => absurd hy (Nat.not_lt_zero y))
      obtain ⟨p1, p2⟩ := hR s hs
      have hrs := ws_rng hW hs
      rw [o2.i 98 0 s (by omega), o1.i 98 0 s (by omega), o2.i 99 0 s (by omega), o1.i 99 0 s (by omega)]
      refine ⟨p1, fun hp => ⟨(p2 hp).1, fun x hx => ?_⟩⟩
      have hx' : (x : Int) < B.1 s := hx
      rw [z2]
      show _ = if s = o ∧ j ≤ x ∧ x < j + n then B.2.2 k (i + (x - j)) else B.2.2 s x
      by_cases z : s = o ∧ j ≤ x ∧ x < j + n
      · obtain ⟨rfl, z3, z4⟩ := z
        rw [if_pos (by omega), if_pos ⟨rfl, z3, z4⟩, z1 _ (by omega), show 64 * k + i + (64 * s + x - (64 * s + j)) = 64 * k + (i + (x - j)) by omega]
        exact ((hR k hk).2 (by omega)).2 _ (by omega)
      · rw [if_neg (by omega), if_neg z, o1.l 100 0 _ (by omega)]
        exact (p2 hp).2 x hx'
    · rw [cn] at g1
      rw [co] at g2
      rw [((hR k hk).2 (by omega)).1, ((hR o ho).2 g2).1, iI_eqI (by omega) (by omega)] at g3
      exact hcast k o hk ho rfl rfl (by omega) g2 g3
  · rw [zb_0, Decidable.not_not] at h2
    exact fun q => h2 q.2
end zMg
