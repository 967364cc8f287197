/-! the reference: a field anew, a box, a mover -/
def aField (A : zAb) (w h : Nat) : zAb := (fun i => if i = 0 then w else if i = 1 then h else if i = 2 ∨ i = 3 ∨ i = 4 then 0 else A.1 i, A.2.1, A.2.2.1, fun b i => if b = 0 ∨ b = 3 then false else A.2.2.2 b i)
def aBox (A : zAb) (t x1 y1 x2 y2 : Nat) : zAb := (A.1, fun b i => if i = t ∧ b = 1 then x1 else if i = t ∧ b = 2 then y1 else if i = t ∧ b = 3 then x2 else if i = t ∧ b = 4 then y2 else A.2.1 b i, A.2.2)
section zM6
variable {d kc ks : Nat} {σ : zSt} {A : zAb} {Q : Option zV → zSt → Prop}
theorem fd_wf {w h : Nat} (hw : 1 ≤ w ∧ w ≤ 8) (hh : 1 ≤ h ∧ h ≤ 8) : zWf (aField A w h) :=
  ⟨⟨hw.1, hw.2, hh.1, hh.2, Nat.zero_le _, Nat.zero_le _, Nat.zero_le _⟩, fun t ht => absurd ht (Nat.not_lt_zero t), fun t ht => absurd ht (Nat.not_lt_zero t), fun t ht => absurd ht (Nat.not_lt_zero t)⟩
def zFm (c k : Nat) : Prop := c = 55 ∨ c = 59 ∨ c = 62 ∨ c = 72 ∨ (c = 54 ∧ (k = 1 ∨ k = 2 ∨ k = 4 ∨ k = 12 ∨ k = 19 ∨ k = 23 ∨ k = 25 ∨ k = 26 ∨ k = 27))
theorem L_X12_field80 {K : Int32 → zSt → Prop} {σ0 : zSt} {w h : Nat} (hw : 1 ≤ w ∧ w ≤ 8) (hh : 1 ≤ h ∧ h ≤ 8) (hK : ∀ σ', zRM (aField A w h) σ' → zOnly (fun c _ e => zFm c e) σ0 σ' → (∀ m, m < 60 → zgi σ' 72 0 m = 0) → zgi σ' 54 0 25 = 0 → zgi σ' 54 0 26 = 0 → zgi σ' 54 0 27 = 0 → K (nI (w * h)) σ') : ∀ (n k : Nat), k + n = 24 → ∀ (kc ks : Nat) (σ : zSt), zOnly (fun c _ e => zFm c e) σ0 σ → (zgi σ 54 0 1 = nI w ∧ zgi σ 54 0 2 = nI h ∧ zgi σ 54 0 4 = 0 ∧ zgi σ 54 0 12 = 0 ∧ zgi σ 54 0 19 = 0 ∧ zgi σ 54 0 23 = 0 ∧ ∀ c, c < 64 → zgi σ 55 0 c = 0) → zE true (d + 3) kc ks M_X12_field 80 [some (.inr (.inr (54, 0))), some (.inl (nI w)), some (.inl (nI h)), some (.inl (nI k))] [] σ (fun r σ' => ∃ x, r = some (.inl x) ∧ K x σ') := by
  intro n
  induction n with
  | zero =>
    intro k hk kc ks σ ho hz
    have : k = 24 := by omega
    subst this
    refine T_X12_field_80 ⟨fun _ => S_X12_otherField (fun σ' h1 h0 h2 h3 h4 => ⟨_, rfl, ?_⟩), fun h => absurd (show (24 : Int32) ≤ nI 24 by decide) h⟩
    rw [nI_mul]
    refine hK σ' ?_ (ho.tr (h1.mono (fun c j k h => by unfold zFl at h; unfold zFm; omega))) h0 h2 h3 h4
    obtain ⟨z1, z2, z3, z4, z5, z6, z7⟩ := hz
    refine ⟨⟨?_, ?_, ?_, ?_, ?_, ?_, fun c hc => ?_⟩, fun t ht => absurd ht (Nat.not_lt_zero t), fun t ht => absurd ht (Nat.not_lt_zero t), fun t ht => absurd ht (Nat.not_lt_zero t)⟩
    · rw [h1.i 54 0 1 (by unfold zFl; omega)]; exact z1
    · rw [h1.i 54 0 2 (by unfold zFl; omega)]; exact z2
    · rw [h1.i 54 0 4 (by unfold zFl; omega)]; exact z3
    · rw [h1.i 54 0 12 (by unfold zFl; omega)]; exact z4
    · rw [h1.i 54 0 19 (by unfold zFl; omega)]; exact z5
    · rw [h1.i 54 0 23 (by unfold zFl; omega)]; exact z6
    · rw [h1.i 55 0 c (by unfold zFl; omega)]; exact z7 c hc
  | succ n ih =>
    intro k hk kc ks σ ho hz
    refine T_X12_field_80 ⟨fun h => ?_, fun _ => ⟨nI_in (by omega) (by omega), nI_in (by omega) (by omega), ?_⟩⟩
    · rw [show (24 : Int32) = nI 24 from rfl, nI_leI (by omega) (by omega)] at h
      omega
    · rw [← nI_succ]
      refine ih (k + 1) (by omega) kc ks _ ((ho.tr (zOnly.si (by unfold zFm; omega))).tr (zOnly.si (by unfold zFm; omega))) ?_
      simp only [zgi_si]
      simpa using hz
theorem L_X12_field39 {K : Int32 → zSt → Prop} {σ0 : zSt} {w h : Nat} (hw : 1 ≤ w ∧ w ≤ 8) (hh : 1 ≤ h ∧ h ≤ 8) (hK : ∀ σ', zRM (aField A w h) σ' → zOnly (fun c _ e => zFm c e) σ0 σ' → (∀ m, m < 60 → zgi σ' 72 0 m = 0) → zgi σ' 54 0 25 = 0 → zgi σ' 54 0 26 = 0 → zgi σ' 54 0 27 = 0 → K (nI (w * h)) σ') : ∀ (n k : Nat), k + n = 64 → ∀ (kc ks : Nat) (σ : zSt), zOnly (fun c _ e => zFm c e) σ0 σ → (zgi σ 54 0 1 = nI w ∧ zgi σ 54 0 2 = nI h) → (∀ c, c < k → zgi σ 55 0 c = 0) → zE true (d + 3) kc ks M_X12_field 39 [some (.inr (.inr (54, 0))), some (.inl (nI w)), some (.inl (nI h)), some (.inl (nI k))] [] σ (fun r σ' => ∃ x, r = some (.inl x) ∧ K x σ') := by
  intro n
  induction n with
  | zero =>
    intro k hk kc ks σ ho hz hc
    have : k = 64 := by omega
    subst this
    refine T_X12_field_39 ⟨fun _ => L_X12_field80 hw hh hK 24 0 rfl kc ks _ ((((ho.tr (zOnly.si (by unfold zFm; omega))).tr (zOnly.si (by unfold zFm; omega))).tr (zOnly.si (by unfold zFm; omega))).tr (zOnly.si (by unfold zFm; omega))) ?_, fun h => absurd (show (64 : Int32) ≤ nI 64 by decide) h⟩
    simp only [zgi_si]
    simpa using ⟨hz.1, hz.2, hc⟩
  | succ n ih =>
    intro k hk kc ks σ ho hz hc
    refine T_X12_field_39 ⟨fun h => ?_, fun _ => ⟨nI_in (by omega) (by omega), ?_⟩⟩
    · rw [show (64 : Int32) = nI 64 from rfl, nI_leI (by omega) (by omega)] at h
      omega
    · rw [← nI_succ, nI_clamp (by omega)]
      refine ih (k + 1) (by omega) kc ks _ (ho.tr (zOnly.si (by unfold zFm; omega))) ?_ (fun c h => ?_)
      · simp only [zgi_si]
        simpa using hz
      · rw [zgi_si]
        by_cases e : c = k
        · simp [e]
        · rw [if_neg (fun q => e q.2.2)]
          exact hc c (by omega)
/-- a field anew -/
theorem O_X12_field {K : Int32 → zSt → Prop} (a b : Int32) (hno : ¬ ((1 ≤ a.toInt ∧ a.toInt ≤ 8) ∧ 1 ≤ b.toInt ∧ b.toInt ≤ 8) → K (-2) σ)
    (hyes : ∀ w h, 1 ≤ w ∧ w ≤ 8 → 1 ≤ h ∧ h ≤ 8 → a = nI w → b = nI h → ∀ σ', zRM (aField A w h) σ' → zOnly (fun c _ e => zFm c e) σ σ' → (∀ m, m < 60 → zgi σ' 72 0 m = 0) → zgi σ' 54 0 25 = 0 → zgi σ' 54 0 26 = 0 → zgi σ' 54 0 27 = 0 → K (nI (w * h)) σ') : zCi true (d + 3) 0 0 M_X12_field [.inr (.inr (54, 0)), .inl (a), .inl (b)] σ K := by
  have c8 : ∀ x : Int32, (1 ≤ x.toInt64 ∧ x.toInt64 ≤ 8) ↔ (1 ≤ x.toInt ∧ x.toInt ≤ 8) := fun x => zin_c x (l := 1) (h := 8) (by omega) (by omega)
  refine zC_intro pl_X12 (Nat.le_of_ble_eq_true rfl) (T_X12_field_0 ⟨fun h => ⟨_, rfl, hno ?_⟩, fun h => ?_⟩)
  · rw [zb_0, zb_0, c8, c8] at h
    omega
  · rw [zb_0, zb_0, c8, c8] at h
    have h1 : 1 ≤ a.toInt ∧ a.toInt ≤ 8 := by omega
    have h2 : 1 ≤ b.toInt ∧ b.toInt ≤ 8 := by omega
    obtain ⟨w, hw, e⟩ : ∃ w : Nat, (1 ≤ w ∧ w ≤ 8) ∧ a = nI w := ⟨a.toInt.toNat, by omega, zI_of (by omega)⟩
    obtain ⟨g, hg, e2⟩ : ∃ g : Nat, (1 ≤ g ∧ g ≤ 8) ∧ b = nI g := ⟨b.toInt.toNat, by omega, zI_of (by omega)⟩
    subst e
    subst e2
    refine L_X12_field39 hw hg (hyes w g hw hg rfl rfl) 64 0 rfl _ _ _ ((zOnly.si (by unfold zFm; omega)).tr (zOnly.si (by unfold zFm; omega))) ?_ (fun c h => by omega)
    simp [zgi_si]
end zM6
