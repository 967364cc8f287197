/-! sheets as numbers: B.1 sizes (-1 none), B.2.1 lanes, B.2.2 cells; the reference's calls on them -/
abbrev zSh : Type := (Nat → Int) × (Nat → Int) × (Nat → Nat → Int64)
def zWs (B : zSh) : Prop := ∀ k, k < 4 → B.1 k = -1 ∨ (0 ≤ B.1 k ∧ B.1 k ≤ 64 ∧ 0 ≤ B.2.1 k ∧ B.2.1 k ≤ 3)
def zRs (B : zSh) (σ : zSt) : Prop := ∀ k, k < 4 → zgi σ 98 0 k = iI (B.1 k) ∧ (0 ≤ B.1 k → zgi σ 99 0 k = iI (B.2.1 k) ∧ ∀ i : Nat, (i : Int) < B.1 k → zgl σ 100 0 (64 * k + i) = B.2.2 k i)
def sNew (B : zSh) (k : Nat) (l n : Int) : zSh := (fun i => if i = k then n else B.1 i, fun i => if i = k then l else B.2.1 i, fun j i => if j = k then 0 else B.2.2 j i)
def sLose (B : zSh) (k : Nat) : zSh := (fun i => if i = k then -1 else B.1 i, B.2)
def sNar (l : Int) (v : Int64) : Int64 := if l = 0 then v.toInt32.toInt8.toInt32.toInt64 else if l = 1 then v.toInt32.toInt16.toInt32.toInt64 else if l = 2 then v.toInt32.toInt64 else v
def sLay (B : zSh) (k i : Nat) (v : Int64) : zSh := (B.1, B.2.1, fun j e => if j = k ∧ e = i then sNar (B.2.1 k) v else B.2.2 j e)
abbrev shI (a : Int32) : Prop := 0 ≤ a.toInt ∧ a.toInt ≤ 3
theorem shI_nI {a : Int32} (h : shI a) : ∃ k, k < 4 ∧ a = nI k := ⟨a.toInt.toNat, by have := h.1; have := h.2; omega, zI_of h.1⟩
theorem iI_eqI {a b : Int} (ha : -2147483648 ≤ a ∧ a < 2147483648) (hb : -2147483648 ≤ b ∧ b < 2147483648) : iI a = iI b ↔ a = b := by
  rw [← Int32.toInt_inj, iI_toInt ha.1 ha.2, iI_toInt hb.1 hb.2]
theorem iI_of (a : Int32) : iI a.toInt = a := by rw [← Int32.toInt_inj, iI_toInt (by have := fb_rng a; omega) (by have := fb_rng a; omega)]
theorem iI_le {a b : Int} (ha : -2147483648 ≤ a ∧ a < 2147483648) (hb : -2147483648 ≤ b ∧ b < 2147483648) : iI a ≤ iI b ↔ a ≤ b := by
  rw [Int32.le_iff_toInt_le, iI_toInt ha.1 ha.2, iI_toInt hb.1 hb.2]
theorem iI_lt {a b : Int} (ha : -2147483648 ≤ a ∧ a < 2147483648) (hb : -2147483648 ≤ b ∧ b < 2147483648) : iI a < iI b ↔ a < b := by
  rw [Int32.lt_iff_toInt_lt, iI_toInt ha.1 ha.2, iI_toInt hb.1 hb.2]
theorem ws_new {B : zSh} {k : Nat} {l n : Int} (h : zWs B) (hl : 0 ≤ l ∧ l ≤ 3) (hn : 0 ≤ n ∧ n ≤ 64) : zWs (sNew B k l n) := by
  intro j hj
  simp only [sNew]
  by_cases e : j = k
  · simp only [if_pos e]; exact Or.inr ⟨hn.1, hn.2, hl.1, hl.2⟩
  · simp only [if_neg e]; exact h j hj
theorem ws_lose {B : zSh} {k : Nat} (h : zWs B) : zWs (sLose B k) := by
  intro j hj
  simp only [sLose]
  by_cases e : j = k
  · simp only [if_pos e]; exact Or.inl trivial
  · simp only [if_neg e]; exact h j hj
theorem ws_lay {B : zSh} {k i : Nat} {v : Int64} (h : zWs B) : zWs (sLay B k i v) := h
theorem ws_rng {B : zSh} (h : zWs B) {k : Nat} (hk : k < 4) : -1 ≤ B.1 k ∧ B.1 k ≤ 64 := by have := h k hk; omega
theorem zRs.of {B : zSh} {σ σ' : zSt} (h : zRs B σ) (h1 : ∀ k, k < 4 → zgi σ' 98 0 k = zgi σ 98 0 k) (h2 : ∀ k, k < 4 → zgi σ' 99 0 k = zgi σ 99 0 k) (h3 : ∀ k, k < 256 → zgl σ' 100 0 k = zgl σ 100 0 k) (hW : zWs B) : zRs B σ' := by
  intro k hk
  obtain ⟨a, b⟩ := h k hk
  rw [h1 k hk]
  refine ⟨a, fun hp => ?_⟩
  obtain ⟨b1, b2⟩ := b hp
  rw [h2 k hk]
  refine ⟨b1, fun i hi => ?_⟩
  have := ws_rng hW hk
  rw [h3 _ (by omega)]
  exact b2 i hi
section zM7
variable {d kc ks : Nat} {σ : zSt} {B : zSh} {Q : Option zV → zSt → Prop}
theorem S_X12_refused {ph : Bool} {K : Int32 → zSt → Prop} (a : Int32) (hK : K a (zsi σ 54 0 0 0)) : zCi ph (d + 1) 0 0 M_X12_refused [.inr (.inr (54, 0)), .inl (a)] σ K := zC_intro pl_X12 (Nat.le_of_ble_eq_true rfl) (T_X12_refused_0 ⟨_, rfl, hK⟩)
theorem S_X12_failed {ph : Bool} {K : Int32 → zSt → Prop} (a : Int32) (hK : K (-10 - a) (zsi σ 54 0 0 a)) : zCi ph (d + 1) 0 0 M_X12_failed [.inr (.inr (54, 0)), .inl (a)] σ K := zC_intro pl_X12 (Nat.le_of_ble_eq_true rfl) (T_X12_failed_0 ⟨_, rfl, hK⟩)
theorem S_X12_failedLong {ph : Bool} {K : Int64 → zSt → Prop} (a : Int32) (hK : K (-9223372036854775808) (zsi σ 54 0 0 a)) : zCl ph (d + 2) 0 0 M_X12_failedLong [.inr (.inr (54, 0)), .inl (a)] σ K := zC_intro pl_X12 (Nat.le_of_ble_eq_true rfl) (T_X12_failedLong_0 ⟨_, rfl, hK⟩)
theorem S_X12_noSheet {ph : Bool} {K : Int32 → zSt → Prop} (a : Int32) (hK : K (zb (¬ shI a)) σ) : zCi ph (d + 2) 0 0 M_X12_noSheet [.inl (a)] σ K := by
  refine zC_intro pl_X12 (Nat.le_of_ble_eq_true rfl) (T_X12_noSheet_0 (fun y hy => ⟨_, rfl, ?_⟩))
  rw [hy, zb_of0 (P := ¬ shI a) ?_]
  · exact hK
  · have := zin_c a (l := 0) (h := 3) (by omega) (by omega)
    rw [zb_0, Decidable.not_not, Decidable.not_not]
    exact this
theorem S_X12_noHold {ph : Bool} {K : Int32 → zSt → Prop} (a : Int32) (hK : K (zb (¬ (0 ≤ a.toInt ∧ a.toInt ≤ 7))) σ) : zCi ph (d + 2) 0 0 M_X12_noHold [.inl (a)] σ K := by
  refine zC_intro pl_X12 (Nat.le_of_ble_eq_true rfl) (T_X12_noHold_0 (fun y hy => ⟨_, rfl, ?_⟩))
  rw [hy, zb_of0 (P := ¬ (0 ≤ a.toInt ∧ a.toInt ≤ 7)) ?_]
  · exact hK
  · have := zin_c a (l := 0) (h := 7) (by omega) (by omega)
    rw [zb_0, Decidable.not_not, Decidable.not_not]
    exact this
/-- what is amiss with a cell of a sheet: 1 none, 3 out of it, 0 nothing -/
def sBad (B : zSh) (k : Nat) (i : Int32) : Int := if B.1 k < 0 then 1 else if 0 ≤ i.toInt ∧ i.toInt < B.1 k then 0 else 3
theorem S_X12_noCell {K : Int32 → zSt → Prop} (hW : zWs B) (hR : zRs B σ) {k : Nat} (hk : k < 4) (i : Int32) (hK : K (iI (sBad B k i)) σ) : zCi true (d + 2) 0 0 M_X12_noCell [.inr (.inr (54, 0)), .inl (nI k), .inl (i)] σ K := by
  have hr := ws_rng hW hk
  have e0 := (hR k hk).1
  refine zC_intro pl_X12 (Nat.le_of_ble_eq_true rfl) (T_X12_noCell_0 ⟨nI_in (by omega) (by omega), fun _ => nI_in (by omega) (by omega), fun x hx => ⟨_, rfl, ?_⟩⟩)
  rw [nI_clamp (by omega), e0] at hx
  have k0 : (0 : Int32) ≤ iI (B.1 k) ↔ 0 ≤ B.1 k := iI_le (a := 0) (by omega) (by omega)
  have e : x = iI (sBad B k i) := by
    unfold sBad
    by_cases h : B.1 k < 0
    · rw [hx, if_neg (fun q => absurd (k0.mp q) (by omega)), if_pos h]; rfl
    · rw [hx, if_pos (k0.mpr (by omega)), if_neg h]
      obtain ⟨n, hn⟩ : ∃ n : Nat, B.1 k = (n : Int) := ⟨(B.1 k).toNat, by omega⟩
      have hz := zin_n i (N := n) (by omega)
      rw [hn, iI_nat]
      by_cases h2 : 0 ≤ i.toInt ∧ i.toInt < (n : Int)
      · rw [if_neg (by rw [zb_0]; exact fun q => q (hz.mpr h2)), if_pos h2]; rfl
      · rw [if_pos (by rw [zb_0]; exact fun q => h2 (hz.mp q)), if_neg h2]; rfl
  rw [e]
  exact hK
/-- a sheet is lost -/
theorem O_X12_lose {K : Int32 → zSt → Prop} (hW : zWs B) (hR : zRs B σ) (a : Int32) (hno : ¬ shI a → K (-1) σ) (hyes : ∀ k, k < 4 → a = nI k → ∀ σ', zRs (sLose B k) σ' → zOnly (fun c _ _ => c = 98) σ σ' → K (zb (0 ≤ B.1 k)) σ') : zCi true (d + 3) 0 0 M_X12_lose [.inr (.inr (54, 0)), .inl (a)] σ K := by
  refine zC_intro pl_X12 (Nat.le_of_ble_eq_true rfl) (T_X12_lose_0 (S_X12_noSheet a ⟨fun h => ?_, fun h => ⟨_, rfl, hno ?_⟩⟩))
  · rw [zb_0, Decidable.not_not] at h
    obtain ⟨k, hk, rfl⟩ := shI_nI h
    have hr := ws_rng hW hk
    refine ⟨nI_in (by omega) (by omega), fun x hx => ⟨nI_in (by omega) (by omega), _, rfl, ?_⟩⟩
    rw [nI_clamp (by omega)] at hx ⊢
    have e : x = zb (0 ≤ B.1 k) := by
      rw [hx, (hR k hk).1]
      exact zb_of1 (iI_le (a := 0) (by omega) (by omega))
    rw [e]
    refine hyes k hk rfl _ (fun j hj => ?_) (zOnly.si rfl)
    rw [zgi_si]
    simp only [sLose]
    by_cases e : j = k
    · subst e
      simp only [if_true, and_self]
      exact ⟨rfl, fun q => by omega⟩
    · rw [if_neg (fun q => e q.2.2)]
      simp only [if_neg e]
      exact hR j hj
  · rw [zb_0] at h
    exact fun q => h (fun z => z q)
/-- a sheet anew -/
theorem L_X12_sheet65 {K : Int32 → zSt → Prop} {σ0 : zSt} (hW : zWs B) {k : Nat} {l : Int} {n : Nat} (hk : k < 4) (hn : n ≤ 64) (hK : ∀ σ', zRs (sNew B k l n) σ' → zOnly (fun c _ e => c = 98 ∨ c = 99 ∨ c = 100 ∨ (c = 54 ∧ e = 0)) σ0 σ' → zgi σ' 54 0 0 = 0 → K 1 σ') : ∀ (r i : Nat), i + r = n → ∀ (kc ks : Nat) (σ : zSt), zOnly (fun c _ e => c = 98 ∨ c = 99 ∨ c = 100 ∨ (c = 54 ∧ e = 0)) σ0 σ → (zgi σ 98 0 k = nI n ∧ zgi σ 99 0 k = iI l ∧ ∀ e, e < i → zgl σ 100 0 (64 * k + e) = 0) → (∀ j, j < 4 → j ≠ k → zgi σ 98 0 j = iI (B.1 j) ∧ (0 ≤ B.1 j → zgi σ 99 0 j = iI (B.2.1 j) ∧ ∀ i : Nat, (i : Int) < B.1 j → zgl σ 100 0 (64 * j + i) = B.2.2 j i)) → zE true (d + 3) kc ks M_X12_sheet 65 [some (.inr (.inr (54, 0))), some (.inl (nI k)), none, some (.inl (nI n)), some (.inl (nI i))] [] σ (fun r σ' => ∃ x, r = some (.inl x) ∧ K x σ') := by
  intro r
  induction r with
  | zero =>
    intro i hi kc ks σ ho hz hj
    have : i = n := by omega
    subst this
    refine T_X12_sheet_65 ⟨fun _ => S_X12_refused _ ⟨_, rfl, hK _ (fun j h4 => ?_) (ho.tr (zOnly.si (Or.inr (Or.inr (Or.inr ⟨rfl, rfl⟩))))) (by simp [zgi_si])⟩, fun h => absurd (Int32.le_refl _) h⟩
    simp only [zgi_si, zgl_si]
    simp only [sNew]
    by_cases e : j = k
    · subst e
      simp
      exact ⟨hz.1, hz.2.1, fun e he => hz.2.2 e he⟩
    · simp only [if_neg e]
      simpa using hj j h4 e
  | succ r ih =>
    intro i hi kc ks σ ho hz hj
    have e64 : (64 : Int32) * nI k + nI i = nI (64 * k + i) := by rw [show (64 : Int32) = nI 64 from rfl, nI_mul, nI_add]
    refine T_X12_sheet_65 ⟨fun h => ?_, fun _ => ?_⟩
    · rw [nI_leI (by omega) (by omega)] at h
      omega
    · rw [e64, nI_clamp (by omega), ← nI_succ]
      refine ⟨nI_in (by omega) (by omega), ih (i + 1) (by omega) kc ks _ (ho.tr (zOnly.sl (Or.inr (Or.inr (Or.inl rfl))))) ?_ (fun j h4 hne => ?_)⟩
      · refine ⟨hz.1, hz.2.1, fun e he => ?_⟩
        rw [zgl_sl]
        by_cases q : e = i
        · simp [q]
        · rw [if_neg (fun z => by omega)]
          exact hz.2.2 e (by omega)
      · obtain ⟨a, b⟩ := hj j h4 hne
        refine ⟨a, fun hp => ⟨(b hp).1, fun e he => ?_⟩⟩
        have := ws_rng hW h4
        rw [zgl_sl, if_neg (fun z => by omega)]
        exact (b hp).2 e he
theorem O_X12_sheet {K : Int32 → zSt → Prop} (hW : zWs B) (hR : zRs B σ) (a b c : Int32) (hno : ¬ shI a → K (-1) (zsi σ 54 0 0 0)) (hout : shI a → ¬ (shI b ∧ c.toInt ≤ 64) → K (-2) (zsi σ 54 0 0 0)) (hneg : shI a → shI b → c.toInt < 0 → K (-14) (zsi σ 54 0 0 4))
    (hyes : ∀ k l n, k < 4 → l < 4 → n ≤ 64 → a = nI k → b = nI l → c = nI n → ∀ σ', zRs (sNew B k l n) σ' → zOnly (fun c _ e => c = 98 ∨ c = 99 ∨ c = 100 ∨ (c = 54 ∧ e = 0)) σ σ' → zgi σ' 54 0 0 = 0 → K 1 σ') : zCi true (d + 3) 0 0 M_X12_sheet [.inr (.inr (54, 0)), .inl (a), .inl (b), .inl (c)] σ K := by
  have hb : (0 ≤ b.toInt64 ∧ b.toInt64 ≤ 3) ↔ shI b := zin_c b (l := 0) (h := 3) (by omega) (by omega)
  have hc : c ≤ 64 ↔ c.toInt ≤ 64 := by rw [Int32.le_iff_toInt_le]; rfl
  have hc0 : 0 ≤ c ↔ 0 ≤ c.toInt := by rw [Int32.le_iff_toInt_le]; rfl
  refine zC_intro pl_X12 (Nat.le_of_ble_eq_true rfl) (T_X12_sheet_0 (S_X12_noSheet a ⟨fun h => ⟨fun h2 => ?_, fun h2 => ⟨fun h3 => ⟨fun h4 => ?_, fun h4 => ?_⟩, fun h3 => ?_⟩⟩, fun h => S_X12_refused _ ⟨_, rfl, hno ?_⟩⟩))
  · rw [zb_0, Decidable.not_not] at h
    rw [zb_0, hb] at h2
    exact T_X12_sheet_31 (S_X12_refused _ ⟨_, rfl, hout h (fun q => h2 q.1)⟩)
  · rw [zb_0, Decidable.not_not] at h
    rw [zb_0, Decidable.not_not, hb] at h2
    rw [hc] at h3
    rw [hc0] at h4
    obtain ⟨k, hk, rfl⟩ := shI_nI h
    obtain ⟨l, hl, rfl⟩ := shI_nI h2
    obtain ⟨n, hn, rfl⟩ : ∃ n : Nat, n ≤ 64 ∧ c = nI n := ⟨c.toInt.toNat, by omega, zI_of h4⟩
    refine ⟨nI_in (by omega) (by omega), nI_in (by omega) (by omega), ?_⟩
    rw [nI_clamp (by omega)]
    refine L_X12_sheet65 (B := B) (l := l) hW hk hn (hyes k l n hk hl hn rfl rfl rfl) n 0 (by omega) _ _ _ ((zOnly.si (Or.inl rfl)).tr (zOnly.si (Or.inr (Or.inl rfl)))) ?_ (fun j hj hne => ?_)
    · simp [zgi_si, iI_nat]
    · simp only [zgi_si, zgl_si]
      simp [hne]
      exact hR j hj
  · rw [zb_0, Decidable.not_not] at h
    rw [zb_0, Decidable.not_not, hb] at h2
    rw [hc0] at h4
    exact S_X12_failed _ ⟨_, rfl, hneg h h2 (by omega)⟩
  · rw [zb_0, Decidable.not_not] at h
    rw [hc] at h3
    exact T_X12_sheet_31 (S_X12_refused _ ⟨_, rfl, hout h (fun q => h3 q.2)⟩)
  · rw [zb_0] at h
    exact fun q => h (fun z => z q)
end zM7
