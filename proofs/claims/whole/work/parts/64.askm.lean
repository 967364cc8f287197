/-! what the reference finds once and keeps: laid rows, narrowed cells, the least quarrel, liars -/
/-- the measures used when those below k have been gone through -/
noncomputable def lqU (A : zAb) : Nat → Nat → Bool
  | 0 => mO A
  | k + 1 => fun m => if m = k then (mO A k && !quB A (fun j => if j = k then false else lqU A k j)) else lqU A k m
theorem lqU_up (A : zAb) : ∀ {k m : Nat}, m < k → ∀ j, lqU A (k + j) m = lqU A k m
  | k, m, h, 0 => rfl
  | k, m, h, j + 1 => by
    show (if m = k + j then _ else lqU A (k + j) m) = _
    rw [if_neg (by omega)]
    exact lqU_up A h j
theorem lqU_end (A : zAb) {k m : Nat} (h : m < k) {n : Nat} (hn : k ≤ n) : lqU A n m = lqU A k m := by
  have := lqU_up A h (n - k)
  rw [show k + (n - k) = n by omega] at this
  exact this
theorem lqU_on (A : zAb) : ∀ (k m : Nat), k ≤ m → lqU A k m = mO A m
  | 0, _, _ => rfl
  | k + 1, m, h => by
    show (if m = k then _ else lqU A k m) = _
    rw [if_neg (by omega)]
    exact lqU_on A k m (by omega)
/-- the least quarrel -/
noncomputable def lqB (A : zAb) (m : Nat) : Bool := quB A (mO A) && lqU A (aM A) m
noncomputable def lqN (A : zAb) : Int := if quB A (mO A) = true then (fb_ct (lqB A) (aM A) : Int) else -9
/-- liars -/
def lyM (A : zAb) (t : Nat) : Bool := decide (aK A t < 2) && !aTr A t
/-- the measures in use without those of some things -/
def lyU (A : zAb) (a b : Int) (m : Nat) : Bool := mO A m && !(decide ((mA A m : Int) = a) || decide ((mB A m : Int) = a) || decide ((mA A m : Int) = b) || decide ((mB A m : Int) = b))
noncomputable def ly1 (A : zAb) (t : Nat) : Bool := lyM A t && !quB A (lyU A t (-1))
noncomputable def ly2 (A : zAb) (t u : Nat) : Bool := lyM A t && lyM A u && !quB A (lyU A t u)
noncomputable def lyP (A : zAb) (t k : Nat) : Nat := fb_ct (fun u => decide (t < u) && ly2 A t u) k
noncomputable def lyQ (A : zAb) (x t k : Nat) : Nat := fb_ct (fun u => decide (t < u) && ly2 A t u && (decide (x = t) || decide (x = u))) k
/-- least number, number of sets, sets with a thing -/
noncomputable def lyR (A : zAb) : Int × Nat × (Nat → Nat) :=
  if quB A (mO A) = false then (0, 1, fun _ => 0)
  else if 0 < fb_ct (ly1 A) (aN A) then (1, fb_ct (ly1 A) (aN A), fun t => if ly1 A t = true then 1 else 0)
  else (if 0 < fb_sm (fun t => lyP A t (aN A)) (aN A) then 2 else -9, fb_sm (fun t => lyP A t (aN A)) (aN A), fun x => fb_sm (fun t => lyQ A x t (aN A)) (aN A))
def zNwI (A : zAb) (σ : zSt) : Prop := ¬ zgi σ 54 0 25 = 0 → zLf A σ 79 (gB A (mO A))
def zJuI (A : zAb) (σ : zSt) : Prop := ¬ zgi σ 54 0 26 = 0 → zgi σ 54 0 35 = iI (lqN A) ∧ ∀ m, m < aM A → zgi σ 80 0 m = zb (lqB A m = true)
def zSkI (A : zAb) (σ : zSt) : Prop := ¬ zgi σ 54 0 27 = 0 → zgi σ 54 0 68 = iI (lyR A).1 ∧ ((lyR A).1 ≠ -9 → zgi σ 54 0 69 = nI (lyR A).2.1 ∧ ∀ t, t < aN A → zgi σ 90 0 t = nI ((lyR A).2.2 t))
def zCM (A : zAb) (σ : zSt) : Prop := zLdI A σ ∧ zNwI A σ ∧ zJuI A σ ∧ zSkI A σ
/-- the places of what is kept -/
abbrev zQm (c _j k : Nat) : Prop := (72 ≤ c ∧ c ≤ 80) ∨ c = 90 ∨ (c = 54 ∧ (k = 25 ∨ k = 26 ∨ k = 27 ∨ k = 35 ∨ k = 68 ∨ k = 69))
theorem zRM.q {A : zAb} {σ σ' : zSt} (h : zRM A σ) (ho : zOnly zQm σ σ') : zRM A σ' := h.only ho (fun c k hb => by unfold zBM at hb; unfold zQm; omega)
theorem zLdI.of {A : zAb} {σ σ' : zSt} (h : zLdI A σ) (h1 : ∀ k, zgi σ' 72 0 k = zgi σ 72 0 k) (h2 : ∀ k, zgl σ' 75 0 k = zgl σ 75 0 k) (h3 : ∀ k, zgl σ' 76 0 k = zgl σ 76 0 k) : zLdI A σ' := by
  intro m hm hz
  rw [h1] at hz
  intro c hc
  rw [h2, h3]
  exact h m hm hz c hc
theorem zLdI.only {A : zAb} {σ σ' : zSt} {M : Nat → Nat → Nat → Prop} (h : zLdI A σ) (ho : zOnly M σ σ') (hm : ∀ k, ¬ M 72 0 k ∧ ¬ M 75 0 k ∧ ¬ M 76 0 k) : zLdI A σ' :=
  h.of (fun k => ho.i 72 0 k (hm k).1) (fun k => ho.l 75 0 k (hm k).2.1) (fun k => ho.l 76 0 k (hm k).2.2)
theorem zNwI.only {A : zAb} {σ σ' : zSt} {M : Nat → Nat → Nat → Prop} (h : zNwI A σ) (ho : zOnly M σ σ') (hm : ¬ M 54 0 25 ∧ ∀ k, ¬ M 79 0 k) : zNwI A σ' := by
  intro hz
  rw [ho.i 54 0 25 hm.1] at hz
  intro t ht
  rw [ho.l 79 0 t (hm.2 t)]
  exact h hz t ht
theorem zJuI.only {A : zAb} {σ σ' : zSt} {M : Nat → Nat → Nat → Prop} (h : zJuI A σ) (ho : zOnly M σ σ') (hm : ¬ M 54 0 26 ∧ ¬ M 54 0 35 ∧ ∀ k, ¬ M 80 0 k) : zJuI A σ' := by
  intro hz
  rw [ho.i 54 0 26 hm.1] at hz
  rw [ho.i 54 0 35 hm.2.1]
  refine ⟨(h hz).1, fun m h2 => ?_⟩
  rw [ho.i 80 0 m (hm.2.2 m)]
  exact (h hz).2 m h2
theorem zSkI.only {A : zAb} {σ σ' : zSt} {M : Nat → Nat → Nat → Prop} (h : zSkI A σ) (ho : zOnly M σ σ') (hm : ¬ M 54 0 27 ∧ ¬ M 54 0 68 ∧ ¬ M 54 0 69 ∧ ∀ k, ¬ M 90 0 k) : zSkI A σ' := by
  intro hz
  rw [ho.i 54 0 27 hm.1] at hz
  rw [ho.i 54 0 68 hm.2.1]
  refine ⟨(h hz).1, fun h2 => ?_⟩
  rw [ho.i 54 0 69 hm.2.2.1]
  refine ⟨((h hz).2 h2).1, fun t ht => ?_⟩
  rw [ho.i 90 0 t (hm.2.2.2 t)]
  exact ((h hz).2 h2).2 t ht
section zMb
variable {d kc ks : Nat} {σ : zSt} {A : zAb} {Q : Option zV → zSt → Prop}
theorem L_X12_useAll (hW : zWf A) {σ0 : zSt} (hR : zRM A σ0) (hQ : ∀ σ', zOnly (fun c _ _ => c = 77) σ0 σ' → zUs A σ' (mO A) → Q none σ') : ∀ (n k : Nat), k + n = aM A → ∀ σ : zSt, zOnly (fun c _ _ => c = 77) σ0 σ → (∀ m, m < k → zgi σ 77 0 m = zb (mO A m = true)) → zE true (d + 1) kc ks M_X12_useAll 2 [some (.inr (.inr (54, 0))), some (.inl (nI k))] [] σ Q := by
  have hM : aM A ≤ 60 := hW.1.2.2.2.2.2.1
  intro n
  induction n with
  | zero =>
    intro k hk σ ho hz
    have hR2 : zRM A σ := hR.only ho (fun c k hb => by unfold zBM at hb; omega)
    have : k = aM A := by omega
    subst this
    exact T_X12_useAll_2 ⟨fun _ => hQ σ ho hz, fun h => absurd (by rw [hR2.1.2.2.2.1]; exact Int32.le_refl _) h⟩
  | succ n ih =>
    intro k hk σ ho hz
    have hR2 : zRM A σ := hR.only ho (fun c k hb => by unfold zBM at hb; omega)
    have e6 := (hR2.2.2.1 k (by omega)).2.2.2.2.2
    refine T_X12_useAll_2 ⟨fun g => ?_, fun _ => ?_⟩
    · rw [hR2.1.2.2.2.1, nI_leI (by omega) (by omega)] at g
      omega
    · rw [nI_clamp (show k < 2 ^ 31 by omega), e6, ← nI_succ]
      refine ⟨nI_in (by omega) (by omega), nI_in (by omega) (by omega), zb_01, ih (k + 1) (by omega) _ (ho.tr (zOnly.si rfl)) (fun m hm => ?_)⟩
      rw [zgi_si]
      by_cases z : m = k
      · rw [if_pos ⟨rfl, rfl, z⟩, z]
      · rw [if_neg (fun w => z w.2.2)]
        exact hz m (by omega)
theorem S_X12_useAll {K : zSt → Prop} (hW : zWf A) (hR : zRM A σ) (hK : ∀ σ', zOnly (fun c _ _ => c = 77) σ σ' → zUs A σ' (mO A) → K σ') : zCv true (d + 1) 0 0 M_X12_useAll [.inr (.inr (54, 0))] σ K :=
  zC_intro pl_X12 (Nat.le_of_ble_eq_true rfl) (T_X12_useAll_0 (L_X12_useAll hW hR (fun σ' h1 h2 => ⟨rfl, hK σ' h1 h2⟩) (aM A) 0 (by omega) σ zOnly.rf (fun m hm => absurd hm (Nat.not_lt_zero m))))
theorem L_X12_findNar24 (hW : zWf A) {σ0 : zSt} (hR : zRM A σ0) {X : Nat → Nat → Bool} (hX : zLf A σ0 78 X) (hQ : ∀ σ', zOnly (fun c _ _ => c = 79) σ0 σ' → zLf A σ' 79 X → Q none σ') : ∀ (n k : Nat), k + n = aN A → ∀ σ : zSt, zOnly (fun c _ _ => c = 79) σ0 σ → (∀ t, t < k → zgl σ 79 0 t = zset (X t) 64) → zE true (d + 8) kc ks M_X12_findNarrowed 24 [some (.inr (.inr (54, 0))), some (.inl (nI k))] [] σ Q := by
  have hN : aN A ≤ 24 := hW.1.2.2.2.2.1
  intro n
  induction n with
  | zero =>
    intro k hk σ ho hz
    have hR2 : zRM A σ := hR.only ho (fun c k hb => by unfold zBM at hb; omega)
    have : k = aN A := by omega
    subst this
    exact T_X12_findNarrowed_24 ⟨fun _ => hQ σ ho hz, fun h => absurd (by rw [hR2.1.2.2.1]; exact Int32.le_refl _) h⟩
  | succ n ih =>
    intro k hk σ ho hz
    have hR2 : zRM A σ := hR.only ho (fun c k hb => by unfold zBM at hb; omega)
    refine T_X12_findNarrowed_24 ⟨fun g => ?_, fun _ => ?_⟩
    · rw [hR2.1.2.2.1, nI_leI (by omega) (by omega)] at g
      omega
    · rw [nI_clamp (show k < 2 ^ 31 by omega), ho.l 78 0 k (by omega), hX k (by omega), ← nI_succ]
      refine ⟨nI_in (by omega) (by omega), nI_in (by omega) (by omega), ih (k + 1) (by omega) _ (ho.tr (zOnly.sl rfl)) (fun t ht => ?_)⟩
      rw [zgl_sl]
      by_cases z : t = k
      · rw [if_pos ⟨rfl, rfl, z⟩, z]
      · rw [if_neg (fun w => z w.2.2)]
        exact hz t (by omega)
theorem S_X12_findNarrowed {K : zSt → Prop} (hW : zWf A) (hR : zRM A σ) (hC : zCM A σ) (hK : ∀ σ', zOnly zQm σ σ' → zCM A σ' → zLf A σ' 79 (gB A (mO A)) → K σ') : zCv true (d + 8) 0 0 M_X12_findNarrowed [.inr (.inr (54, 0))] σ K := by
  refine zC_intro pl_X12 (Nat.le_of_ble_eq_true rfl) (T_X12_findNarrowed_0 ⟨fun _ => ?_, fun g => ⟨rfl, hK σ zOnly.rf hC (hC.2.1 g)⟩⟩)
  have o0 : zOnly (fun c _ k => c = 54 ∧ k = 25) σ (zsi σ 54 0 25 1) := zOnly.si ⟨rfl, rfl⟩
  have hR0 : zRM A (zsi σ 54 0 25 1) := hR.only o0 (fun c k hb => by unfold zBM at hb; omega)
  refine S_X12_useAll hW hR0 (fun σ1 o1 u1 => ?_)
  have hR1 : zRM A σ1 := hR0.only o1 (fun c k hb => by unfold zBM at hb; omega)
  have hl1 : zLdI A σ1 := (hC.1.only o0 (fun k => by omega)).only o1 (fun k => by omega)
  refine S_X12_narrow hW hR1 hl1 u1 (fun σ2 o2 l2 x2 => ?_)
  have hR2 : zRM A σ2 := hR1.only o2 (fun c k hb => by unfold zBM at hb; unfold zNm1; omega)
  refine L_X12_findNar24 (A := A) (Q := fun r σ' => r = none ∧ K σ') hW hR2 x2 (fun σ3 o3 x3 => ⟨rfl, ?_⟩) (aN A) 0 (by omega) σ2 zOnly.rf (fun t ht => absurd ht (Nat.not_lt_zero t))
  have oo : zOnly (fun c _ k => (72 ≤ c ∧ c ≤ 79) ∨ (c = 54 ∧ k = 25)) σ σ3 := (((o0.mono (fun c j k h => Or.inr h)).tr (o1.mono (fun c j k h => Or.inl (by omega)))).tr (o2.mono (fun c j k h => by unfold zNm1 at h; omega))).tr (o3.mono (fun c j k h => by omega))
  exact hK σ3 (oo.mono (fun c j k h => by unfold zQm; omega)) ⟨l2.only o3 (fun k => by omega), fun _ => x3, hC.2.2.1.only oo ⟨by omega, by omega, fun k => by omega⟩, hC.2.2.2.only oo ⟨by omega, by omega, by omega, fun k => by omega⟩⟩ x3
/-- the cells that are left to a thing -/
theorem O_X12_cells {K : Int64 → zSt → Prop} (hW : zWf A) (hR : zRM A σ) (hC : zCM A σ) (a : Int32) (hno : ¬ tI A a = true → K 0 σ) (hyes : ∀ t, t < aN A → a = nI t → ∀ σ', zOnly zQm σ σ' → zCM A σ' → K (zset (gB A (mO A) t) 64) σ') : zCl true (d + 9) 0 0 M_X12_cells [.inr (.inr (54, 0)), .inl (a)] σ K := by
  have hN : aN A ≤ 24 := hW.1.2.2.2.2.1
  refine zC_intro pl_X12 (Nat.le_of_ble_eq_true rfl) (T_X12_cells_0 (S_X12_noThing hW hR a ⟨fun h => ?_, fun h => ⟨_, rfl, hno ?_⟩⟩))
  · rw [zb_0, Decidable.not_not] at h
    obtain ⟨t, ht, rfl⟩ := tI_nI h
    refine S_X12_findNarrowed hW hR hC (fun σ' o1 o2 o3 => ⟨nI_in (by omega) (by omega), _, rfl, ?_⟩)
    rw [nI_clamp (show t < 2 ^ 31 by omega), o3 t ht]
    exact hyes t ht rfl σ' o1 o2
  · rw [zb_0, Decidable.not_not] at h
    exact h
/-- whether a thing can be on a cell: by what is told, or narrowed -/
theorem O_X12_can {K : Int32 → zSt → Prop} (hW : zWf A) (hR : zRM A σ) (hC : zCM A σ) (a b e : Int32) (hno : ¬ (tI A a = true ∧ acI A b = true) → K (-1) σ) (hout : (tI A a = true ∧ acI A b = true) → ¬ (e = 0 ∨ e = 1) → K (-2) σ)
    (hyes : ∀ t c, t < aN A → c < 64 → acell A c = true → a = nI t → b = nI c → ∀ σ', zOnly zQm σ σ' → zCM A σ' → (e = 0 → K (zb (atold A t c = true)) σ') ∧ (e = 1 → K (zb (gB A (mO A) t c = true)) σ')) : zCi true (d + 9) 0 0 M_X12_can [.inr (.inr (54, 0)), .inl (a), .inl (b), .inl (e)] σ K := by
  have hN : aN A ≤ 24 := hW.1.2.2.2.2.1
  have he : (0 ≤ e.toInt64 ∧ e.toInt64 ≤ 1) ↔ (e = 0 ∨ e = 1) := by
    have h1 := zin_c e (l := 0) (h := 1) (by omega) (by omega)
    have e0 : (0 : Int32).toInt = 0 := rfl
    have e1 : (1 : Int32).toInt = 1 := rfl
    rw [← Int32.toInt_inj, ← Int32.toInt_inj, e0, e1]
    have h2 : (0 ≤ e.toInt64 ∧ e.toInt64 ≤ 1) ↔ (((0 : Nat) : Int) ≤ e.toInt ∧ e.toInt ≤ ((1 : Nat) : Int)) := h1
    rw [h2]
    omega
  refine zC_intro pl_X12 (Nat.le_of_ble_eq_true rfl) (T_X12_can_0 (S_X12_noThing hW hR a ⟨fun h => ⟨_, rfl, hno ?_⟩, fun h => S_X12_isCell hW hR b ⟨fun h2 => ⟨fun h3 => ?_, fun h3 => ⟨_, rfl, hout ?_ ?_⟩⟩, fun h2 => ⟨_, rfl, hno ?_⟩⟩⟩))
  · rw [zb_0] at h
    exact fun q => h (fun z => z q.1)
  · rw [zb_0, Decidable.not_not] at h h2
    rw [zb_0, Decidable.not_not, he] at h3
    obtain ⟨t, ht, rfl⟩ := tI_nI h
    obtain ⟨c, hc, hac, rfl⟩ := acI_nI h2
    refine S_X12_findNarrowed hW hR hC (fun σ' o1 o2 o3 => ⟨fun g => ⟨nI_in (by omega) (by omega), ?_⟩, fun g => S_X12_toldOf hW (hR.q o1) ht ?_⟩)
    · rw [nI_clamp (show t < 2 ^ 31 by omega), o3 t ht]
      refine T_X12_can_53 (fun x hx => ⟨_, rfl, ?_⟩)
      rw [hx, zl_b1 hc, zb_of0 (P := gB A (mO A) t c = true) (by rw [zb_0])]
      exact (hyes t c ht hc hac rfl rfl σ' o1 o2).2 (h3.resolve_left g)
    · refine T_X12_can_53 (fun x hx => ⟨_, rfl, ?_⟩)
      rw [hx, zl_b1 hc, zb_of0 (P := atold A t c = true) (by rw [zb_0])]
      exact (hyes t c ht hc hac rfl rfl σ' o1 o2).1 g
  · rw [zb_0, Decidable.not_not] at h h2
    exact ⟨h, h2⟩
  · rw [zb_0, he] at h3
    exact h3
  · rw [zb_0] at h2
    exact fun q => h2 q.2
end zMb
